/-! a round of the reference: g, the message, its status, the polynomial, the places copied -/
noncomputable def rf_H (yp yq : Nat → Int32) (c : Nat → Nat) (f x : Nat) : Int := (tr_v yp yq (6 * f) (nI x) (c f) : Int)
section
variable {yn yh yd yg : Int32} {yv : Int64} {cl yp yq : Nat → Int32} {sd ak zz : Nat → Int64}
theorem ys_g_in {post : Int64 → SY → Prop} {J5 : Int64 → Int32 → (Nat → Int32) → (Nat → Int32) → (Nat → Int32) → (Nat → Int64) → (Nat → Int64) → (Nat → Int64) → Prop}
    {c : Nat → Nat} {r : Nat → Nat} {n m t q k : Nat} {S : Int} (hn : n < 6) (hm : m + 1 + k = n) (ht : t < 3) (hq : q < 2 ^ k) (hc : ∀ f, f < 2 → c f ≤ 6 ∧ cl f = nI (c f)) (hr : ∀ i, i < m → ak i = fd_c (r i))
    (hp : ∀ z : Nat → Int64, J5 (fd_c (S + ml_f (ml_E (rf_H yp yq c 0) (fun i => r i) m) t q * ml_f (ml_E (rf_H yp yq c 1) (fun i => r i) m) t q)) (nI (q + 1)) cl yp yq sd ak z) :
    ∀ d i : Nat, i + d = n → ∀ z : Nat → Int64, (∀ j, j < i → z j = fd_c (ml_z (fun i => r i) m t q j)) → wY_g_26 post J5 (nI t) (fd_c S) (nI q) (nI n) yh yd (nI m) yv (d + 1) (nI i) cl yp yq sd ak z := by
  have h32 := sv_2 k (by omega)
  intro d
  induction d with
  | zero =>
    intro i hi z hz
    have e : i = n := by omega
    subst e
    refine br_t (nI_le (by omega) (by omega)) (ys_both (c := c) (by omega) hc hz ?_)
    refine ys_field _ (fd_zA _ _) (nm_r (nI_1 q) ?_)
    have H := hp z
    rw [← ml_g (rf_H yp yq c 0) (fun i => r i) m k t hq, ← ml_g (rf_H yp yq c 1) (fun i => r i) m k t hq, hm] at H
    exact H
  | succ d ih =>
    intro i hi z hz
    have hv : vp_in (nI i) 5 := vp_in_nI (by omega) (by omega)
    have hcl : (nI i).toNatClampNeg = i := nI_clamp (by omega)
    have next : ∀ w : Int64, w = fd_c (ml_z (fun i => r i) m t q i) → ∀ z' : Nat → Int64, z' = vp_updL z (nI i).toNatClampNeg w → ∀ y : Int32, y = nI i + 1 → wY_g_26 post J5 (nI t) (fd_c S) (nI q) (nI n) yh yd (nI m) yv (d + 1) y cl yp yq sd ak z' := by
      intro w ew z' ez y ey
      rw [ey, nI_1, ez, hcl]
      refine ih (i + 1) (by omega) _ ?_
      intro j hj
      by_cases e : j = i
      · rw [e, pk_uLs, ew]
      · rw [pk_uLn (by omega)]
        exact hz j (by omega)
    refine br_f (nI_ge (by omega) (by omega)) ?_
    by_cases c1 : m ≤ i
    · refine br_t (nI_le c1 (by omega)) ?_
      by_cases c2 : i = m
      · refine br_t (by rw [c2]) ⟨hv, next _ ?_⟩
        rw [fd_i (by omega), ml_z, if_neg (by omega), if_pos c2]
      · refine br_f (by rw [nI_eq (by omega) (by omega)]; exact c2) ⟨hv, next _ ?_⟩
        have e1 : nI i - nI m - 1 = nI (i - m - 1) := by
          rw [pk_sub c1]
          exact pk_sub (a := i - m) (b := 1) (by omega)
        rw [e1, sv_b (by omega) (by omega), fd_i (by omega), ml_z, if_neg (by omega), if_neg c2]
    · refine br_f (nI_ge (by omega) (by omega)) ⟨hv, hv, next _ ?_⟩
      rw [hcl, ml_z, if_pos (by omega)]
      exact hr i (by omega)
theorem ys_g {post : Int64 → SY → Prop} {c : Nat → Nat} {r : Nat → Nat} {n m k : Nat} (hn : n < 6) (hm : m + 1 + k = n) (t : Nat) (ht : t < 3) (hc : ∀ f, f < 2 → c f ≤ 6 ∧ cl f = nI (c f)) (hr : ∀ i, i < m → ak i = fd_c (r i))
    (hp : ∀ z : Nat → Int64, post (fd_c (sm_G (fun f => ml_E (rf_H yp yq c f) (fun i => r i) m) (2 ^ k) t)) (nI n, yh, yd, nI m, yv, cl, yp, yq, sd, ak, z)) :
    wpY_g post (nI n, yh, yd, nI m, yv, cl, yp, yq, sd, ak, zz) (nI t) := by
  have h32 := sv_2 k (by omega)
  have e1 : (1 : Int32) <<< ((nI n - 1 - nI m) &&& 31) = nI (2 ^ k) := by
    rw [show nI n - 1 = nI (n - 1) from pk_sub (a := n) (b := 1) (by omega), pk_sub (by omega), show n - 1 - m = k by omega]
    exact sv_p k (by omega)
  have H : ∀ d q : Nat, q + d = 2 ^ k → ∀ z : Nat → Int64, wY_g_5 post (nI t) (nI n) yh yd (nI m) yv (d + 1) (fd_c (ml_s (fun j => ml_f (ml_E (rf_H yp yq c 0) (fun i => r i) m) t j * ml_f (ml_E (rf_H yp yq c 1) (fun i => r i) m) t j) q)) (nI q) cl yp yq sd ak z := by
    intro d
    induction d with
    | zero =>
      intro q hq z
      have e : q = 2 ^ k := by omega
      subst e
      exact br_t (by rw [e1]; exact nI_le (by omega) (by omega)) (hp z)
    | succ d ih =>
      intro q hq z
      refine br_f (by rw [e1]; exact nI_ge (by omega) (by omega)) ⟨n + 1, ?_⟩
      exact ys_g_in hn hm ht (by omega) hc hr (fun z' => ih (q + 1) (by omega) z') n 0 (by omega) z (fun j h => absurd h (by omega))
  exact ⟨2 ^ k + 1, H (2 ^ k) 0 (by omega) zz⟩
theorem ys_send146 {post : SY → Prop} {z0 : Int64} {a b V : Int} {S0 S1 : Int} (hz0 : (fd_c a + z0).toInt % 2147483647 = b % 2147483647) (hv : yv = fd_c V) (h0 : sd 0 = fd_c S0) (h1 : sd 1 = fd_c S1)
    (hp : ∀ s : Nat → Int64, (∀ i, i < 3 → s i = if i = 2 then fd_c b else sd i) → post (yn, yh, if fd_c (S0 + S1) = fd_c V then 1 else 3, yg, yv, cl, yp, yq, s, ak, zz)) :
    wY_send_146 post z0 (fd_c a) 2 yn yh yd yg yv cl yp yq sd ak zz := by
  unfold wY_send_146
  refine ys_field b hz0 ⟨vp_in_nI (n := 2) (by decide) (by decide), fun s es => ?_⟩
  have e2 : (2 : Int32).toNatClampNeg = 2 := by decide
  rw [e2] at es
  have a0 : s 0 = fd_c S0 := by rw [es, pk_uLn (by decide), h0]
  have a1 : s 1 = fd_c S1 := by rw [es, pk_uLn (by decide), h1]
  have H := hp s (sm_lt3 (by rw [es, pk_uLn (by decide)]; rfl) (by rw [es, pk_uLn (by decide)]; rfl) (by rw [es, pk_uLs]; rfl))
  rw [a0, a1]
  refine ys_field (S0 + S1) (fd_zA _ _) ?_
  subst hv
  by_cases c : fd_c (S0 + S1) = fd_c V
  · rw [if_pos c] at H
    exact br_t c H
  · rw [if_neg c] at H
    exact br_f c H
theorem ys_send105 {post : SY → Prop} {z0 x7 x9 : Int64} {a b g e V : Int} {S0 : Int} (hz0 : (fd_c a + z0).toInt % 2147483647 = b % 2147483647) (hv : yv = fd_c V) (h0 : sd 0 = fd_c S0) (h7 : x7 = fd_c e) (h9 : x9 = fd_c (e * 1073741824))
    (hp : ∀ s : Nat → Int64, s 0 = fd_c S0 → s 1 = fd_c b → s 2 = fd_c (g + sm_e yh e 2) → post (yn, yh, if fd_c (S0 + b) = fd_c V then 1 else 3, yg, yv, cl, yp, yq, s, ak, zz)) :
    wY_send_105 post (fd_c g) x7 x9 z0 (fd_c a) 1 yn yh yd yg yv cl yp yq sd ak zz := by
  unfold wY_send_105
  refine ys_field b hz0 ⟨vp_in_nI (n := 1) (by decide) (by decide), fun s es => ?_⟩
  have e2 : (1 : Int32).toNatClampNeg = 1 := by decide
  rw [e2] at es
  have a0 : s 0 = fd_c S0 := by rw [es, pk_uLn (by decide), h0]
  have a1 : s 1 = fd_c b := by rw [es, pk_uLs]
  have fin : ∀ w : Int64, (fd_c g + w).toInt % 2147483647 = (g + sm_e yh e 2) % 2147483647 → wY_send_146 post w (fd_c g) 2 yn yh yd yg yv cl yp yq s ak zz := by
    intro w hw
    refine ys_send146 hw hv a0 a1 (fun s' hs' => hp s' ?_ ?_ ?_)
    · rw [hs' 0 (by decide)]
      exact a0
    · rw [hs' 1 (by decide)]
      exact a1
    · exact hs' 2 (by decide)
  by_cases m1 : yh = 1
  · refine br_t m1 (fin _ ?_)
    rw [h9, m1, sm_e1]
    exact fd_zA _ _
  · refine br_f m1 ?_
    by_cases m2 : yh = 2
    · refine br_t m2 (fin _ ?_)
      rw [h7, m2, sm_e22, ← Int.sub_eq_add_neg]
      exact fd_zN _ _
    · refine br_f m2 (fin _ ?_)
      rw [sm_e0 m1 m2]
      exact fd_zA0 _
theorem ys_send79 {post : SY → Prop} {z0 : Int64} {V : Int} {G : Nat → Int} (e : Int) (ee : e = V - (G 0 + G 1)) (hz0 : (fd_c (G 0) + z0).toInt % 2147483647 = sm_v yh V G 0 % 2147483647) (hv : yv = fd_c V)
    (hp : ∀ s : Nat → Int64, (∀ i, i < 3 → s i = fd_c (sm_v yh V G i)) → post (yn, yh, sm_st yh V G, yg, yv, cl, yp, yq, s, ak, zz)) :
    wY_send_79 post (fd_c (G 1)) (fd_c (G 2)) (fd_c e) (fd_c (e * 1073741824)) z0 (fd_c (G 0)) 0 yn yh yd yg yv cl yp yq sd ak zz := by
  unfold wY_send_79
  refine ys_field (sm_v yh V G 0) hz0 ⟨vp_in_nI (n := 0) (by decide) (by decide), fun s es => ?_⟩
  have e2 : (0 : Int32).toNatClampNeg = 0 := by decide
  rw [e2] at es
  have a0 : s 0 = fd_c (sm_v yh V G 0) := by rw [es, pk_uLs]
  have fin : ∀ w : Int64, (fd_c (G 1) + w).toInt % 2147483647 = sm_v yh V G 1 % 2147483647 → wY_send_105 post (fd_c (G 2)) (fd_c e) (fd_c (e * 1073741824)) w (fd_c (G 1)) 1 yn yh yd yg yv cl yp yq s ak zz := by
    intro w hw
    refine ys_send105 hw hv a0 rfl rfl (fun s' h0 h1 h2 => hp s' (sm_lt3 h0 h1 ?_))
    rw [h2, ee]
    rfl
  by_cases m1 : yh = 1
  · refine br_t m1 (fin _ ?_)
    rw [m1, sm_v, sm_e1, ← ee]
    exact fd_zA _ _
  · refine br_f m1 (fin _ ?_)
    by_cases m2 : yh = 2
    · rw [m2, sm_v, sm_e21]
      exact fd_zA0 _
    · rw [sm_v, sm_e0 m1 m2]
      exact fd_zA0 _
theorem ys_send {post : SY → Prop} {c : Nat → Nat} {r : Nat → Nat} {n m k : Nat} {V : Int} (hn : n < 6) (hm : m + 1 + k = n) (hv : yv = fd_c V) (hc : ∀ f, f < 2 → c f ≤ 6 ∧ cl f = nI (c f)) (hr : ∀ i, i < m → ak i = fd_c (r i))
    (hp : ∀ s z : Nat → Int64, (∀ i, i < 3 → s i = fd_c (sm_v yh V (sm_G (fun f => ml_E (rf_H yp yq c f) (fun i => r i) m) (2 ^ k)) i)) → post (nI n, yh, sm_st yh V (sm_G (fun f => ml_E (rf_H yp yq c f) (fun i => r i) m) (2 ^ k)), nI m, yv, cl, yp, yq, s, ak, z)) :
    wpY_send post (nI n, yh, yd, nI m, yv, cl, yp, yq, sd, ak, zz) := by
  unfold wpY_send
  refine ys_g hn hm 0 (by decide) hc hr (fun z1 => ?_)
  refine ys_g hn hm 1 (by decide) hc hr (fun z2 => ?_)
  refine ys_g hn hm 2 (by decide) hc hr (fun z3 => ?_)
  generalize hG : sm_G (fun f => ml_E (rf_H yp yq c f) (fun i => r i) m) (2 ^ k) = G
  rw [hG] at hp
  refine ys_field (V - (G 0 + G 1)) (by rw [hv, fd_zSS, Int.sub_sub]) ?_
  refine ys_field ((V - (G 0 + G 1)) * 1073741824) (fd_zMH _) ?_
  have fin : ∀ w : Int64, (fd_c (G 0) + w).toInt % 2147483647 = sm_v yh V G 0 % 2147483647 → wY_send_79 post (fd_c (G 1)) (fd_c (G 2)) (fd_c (V - (G 0 + G 1))) (fd_c ((V - (G 0 + G 1)) * 1073741824)) w (fd_c (G 0)) 0 (nI n) yh yd (nI m) yv cl yp yq sd ak z3 :=
    fun w hw => ys_send79 _ rfl hw hv (fun s hs => hp s z3 hs)
  by_cases m1 : yh = 1
  · refine br_t m1 (fin _ ?_)
    rw [m1, sm_v, sm_e1]
    exact fd_zA _ _
  · refine br_f m1 ?_
    by_cases m2 : yh = 2
    · refine br_t m2 (fin _ ?_)
      rw [m2, sm_v, sm_e20]
      exact fd_zA _ _
    · refine br_f m2 (fin _ ?_)
      rw [sm_v, sm_e0 m1 m2]
      exact fd_zA0 _
theorem ys_through {post : Int64 → Prop} {S : Nat → Int} {w : Int64} (hs : ∀ i, i < 3 → sd i = fd_c (S i)) (r : Int) (hw : w = fd_c r) (hp : post (fd_c (sm_N S r))) : wpY_through post (yn, yh, yd, yg, yv, cl, yp, yq, sd, ak, zz) w := by
  subst hw
  rw [sm_N, ml_polyc] at hp
  unfold wpY_through
  refine ys_field (r - 1) (fd_zS1 _) ?_
  refine ys_field (r - 2) (fd_zS2 _) ?_
  refine ys_field ((r - 1) * (r - 2)) (fd_zM _ _) ?_
  refine ys_field (r - 2) (fd_zS2 _) ?_
  refine ys_field (r * (r - 2)) (fd_zM _ _) ?_
  refine ys_field (r - 1) (fd_zS1 _) ?_
  refine ys_field (r * (r - 1)) (fd_zM _ _) ?_
  refine ys_field (S 0 * ((r - 1) * (r - 2))) (by rw [hs 0 (by decide)]; exact fd_zM _ _) ?_
  refine ys_field (S 0 * ((r - 1) * (r - 2)) * 1073741824) (fd_zMH _) ?_
  refine ys_field (S 1 * (r * (r - 2))) (by rw [hs 1 (by decide)]; exact fd_zM _ _) ?_
  refine ys_field (S 2 * (r * (r - 1))) (by rw [hs 2 (by decide)]; exact fd_zM _ _) ?_
  refine ys_field (S 2 * (r * (r - 1)) * 1073741824) (fd_zMH _) ?_
  exact ys_field _ (fd_zSA _ _ _) hp
end
