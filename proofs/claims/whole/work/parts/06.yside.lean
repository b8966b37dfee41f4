/-! the reference's own methods, each against the integers -/
theorem fd_zS1 (x : Int) : (fd_c x - 1).toInt % 2147483647 = (x - 1) % 2147483647 := by
  rw [← fd_1]
  exact fd_zS x 1
theorem fd_zS2 (x : Int) : (fd_c x - 2).toInt % 2147483647 = (x - 2) % 2147483647 := by
  rw [← fd_2]
  exact fd_zS x 2
theorem fd_z1S (x : Int) : (1 - fd_c x).toInt % 2147483647 = (1 - x) % 2147483647 := by
  rw [← fd_1]
  exact fd_zS 1 x
theorem fd_zMH (x : Int) : (fd_c x * 1073741824).toInt % 2147483647 = (x * 1073741824) % 2147483647 := by
  rw [← fd_H]
  exact fd_zM x 1073741824
theorem fd_zA0 (x : Int) : (fd_c x + 0).toInt % 2147483647 = (x + 0) % 2147483647 := by
  rw [← fd_0]
  exact fd_zA x 0
theorem tr_nb (pos neg : Nat → Int32) (b : Nat) (x : Int32) (k : Nat) : narrow .boolean (.int (nI (tr_v pos neg b x k))) = .int (nI (tr_v pos neg b x k)) := by
  rcases tr_vr pos neg b x k with z | z
  · rw [z]
    rfl
  · rw [z]
    rfl
theorem tr_f1 {pos neg : Nat → Int32} {b : Nat} {x : Int32} {k : Nat} (h : tr_v pos neg b x k = 1) : tr_F pos neg b x k := by
  by_cases c : tr_F pos neg b x k
  · exact c
  · rw [tr_v0 c] at h
    exact absurd h (by decide)
theorem tr_s0 {pos neg : Nat → Int32} {b : Nat} {x : Int32} {k : Nat} (h : tr_v pos neg b x k = 0) : tr_v pos neg b x (k + 1) = 0 := by
  apply tr_v0
  intro c
  rw [tr_v1 (fun i hi => c i (by omega))] at h
  exact absurd h (by decide)
theorem tr_s1 {pos neg : Nat → Int32} {b : Nat} {x : Int32} {k : Nat} (h : tr_v pos neg b x k = 1) (g : ¬ tr_n pos neg b x k) : tr_v pos neg b x (k + 1) = 1 := tr_v1 (tr_Fs (tr_f1 h) g)
section
variable {yn yh yd yg : Int32} {yv : Int64} {cl yp yq : Nat → Int32} {sd ak zz : Nat → Int64}
theorem ys_field {post : Int64 → Prop} {x : Int64} (z : Int) (hz : x.toInt % 2147483647 = z % 2147483647) (hp : post (fd_c z)) : wpY_field post (yn, yh, yd, yg, yv, cl, yp, yq, sd, ak, zz) x := by
  refine ⟨by decide, nm_e ?_⟩
  by_cases h : 0 ≤ x - x / 2147483647 * 2147483647
  · refine br_t h ?_
    rw [fd_pos hz (Int64.not_lt.mpr h)]
    exact hp
  · refine br_f h ?_
    rw [fd_neg hz (Int64.not_le.mp h)]
    exact hp
theorem ys_holds_l {post : Int32 → Prop} {f c : Nat} (hf : f < 2) (hc : c ≤ 6) (ec : cl f = nI c) (x : Int32) (hp : post (nI (tr_v yp yq (6 * f) x c))) :
    ∀ d k : Nat, k + d = c → wY_holds_30 post (nI f) x yn yh yd yg yv cl yp yq sd ak zz (d + 1) (nI (tr_v yp yq (6 * f) x k)) (nI k) := by
  have hfi : vp_in (nI f) 2 := vp_in_nI hf (by omega)
  have hfc : cl (nI f).toNatClampNeg = nI c := by rw [nI_clamp (by omega), ec]
  intro d
  induction d with
  | zero =>
    intro k hk
    have e : k = c := by omega
    subst e
    exact ⟨hfi, br_t (by rw [hfc]; exact nI_le (by omega) (by omega)) ⟨tr_nb _ _ _ _ _, hp⟩⟩
  | succ d ih =>
    intro k hk
    have ei : 6 * nI f + nI k = nI (6 * f + k) := by
      rw [show 6 * nI f = nI (6 * f) from pk_mul 6 f, nI_add]
    have hi : vp_in (6 * nI f + nI k) 12 := by rw [ei]; exact vp_in_nI (by omega) (by omega)
    have hcl : (6 * nI f + nI k).toNatClampNeg = 6 * f + k := by rw [ei]; exact nI_clamp (by omega)
    have I := ih (k + 1) (by omega)
    have next : ∀ w : Int32, w = nI (tr_v yp yq (6 * f) x (k + 1)) → ∀ y : Int32, y = nI k + 1 → wY_holds_30 post (nI f) x yn yh yd yg yv cl yp yq sd ak zz (d + 1) w y := by
      intro w ew y ey
      rw [ew, ey, nI_1]
      exact I
    refine ⟨hfi, br_f (by rw [hfc]; exact nI_ge (by omega) (by omega)) (br_f (nI_ge (b := 6) (by omega) (by decide)) ?_)⟩
    rcases tr_vr yp yq (6 * f) x k with z | z
    · rw [z]
      exact br_t rfl (next 0 (by rw [tr_s0 z]; rfl))
    · rw [z]
      refine br_f (by decide) ⟨hi, ?_⟩
      by_cases h1 : x &&& yp (6 * nI f + nI k).toNatClampNeg = 0
      · refine br_t h1 ⟨hi, ?_⟩
        rw [hcl] at h1
        by_cases h2 : (x ^^^ (-1)) &&& yq (6 * nI f + nI k).toNatClampNeg = 0
        · refine br_t h2 (next 0 ?_)
          rw [hcl] at h2
          rw [tr_no (k := k) (by omega) ⟨h1, h2⟩]
          rfl
        · refine br_f h2 (next 1 ?_)
          rw [hcl] at h2
          rw [tr_s1 z (fun g => h2 g.2)]
          rfl
      · refine br_f h1 (next 1 ?_)
        rw [hcl] at h1
        rw [tr_s1 z (fun g => h1 g.1)]
        rfl
theorem ys_holds9 {post : Int32 → Prop} {f c n : Nat} (hf : f < 2) (hn : n < 6) (hc : c ≤ 6) (ec : cl f = nI c) {x : Nat} (hx : x < 2 ^ n) (hp : post (nI (tr_v yp yq (6 * f) (nI x) c))) : wY_holds_9 post (nI f) (nI x) (nI n) yh yd yg yv cl yp yq sd ak zz := by
  have h32 := sv_2 n hn
  refine br_f (nI_pos (by omega)) (br_t (by rw [sv_p n hn]; exact nI_lt hx (by omega)) ⟨c + 1, ?_⟩)
  have H := ys_holds_l (yn := nI n) (yh := yh) (yd := yd) (yg := yg) (yv := yv) (sd := sd) (ak := ak) (zz := zz) hf hc ec (nI x) hp c 0 (by omega)
  rw [tr_v1 (tr_F0 _ _ _ _)] at H
  exact H
theorem ys_holds {post : Int32 → Prop} {f c n : Nat} (hf : f < 2) (hn : n < 6) (hc : c ≤ 6) (ec : cl f = nI c) {x : Nat} (hx : x < 2 ^ n) (hp : post (nI (tr_v yp yq (6 * f) (nI x) c))) : wpY_holds post (nI n, yh, yd, yg, yv, cl, yp, yq, sd, ak, zz) (nI f) (nI x) := by
  have e : f = 0 ∨ f = 1 := by omega
  rcases e with rfl | rfl
  · exact br_t rfl (ys_holds9 hf hn hc ec hx hp)
  · exact br_f (by decide) (br_t rfl (ys_holds9 hf hn hc ec hx hp))
theorem ys_at_in {post : Int64 → Prop} {J5 : Int64 → Int32 → Prop} {x1 : Int32} {S : Int} {x n : Nat} {z : Nat → Int} (hn : n < 6) (hx : x < 32) (hz : ∀ i, i < n → zz i = fd_c (z i)) (hp : J5 (fd_c (S + ml_p z x n)) (nI (x + 1))) :
    ∀ d i : Nat, i + d = n → wY_at_32 post J5 x1 (fd_c S) (nI x) (nI n) yh yd yg yv cl yp yq sd ak zz (d + 1) (fd_c (ml_p z x i)) (nI i) := by
  intro d
  induction d with
  | zero =>
    intro i hi
    have e : i = n := by omega
    subst e
    exact br_t (nI_le (by omega) (by omega)) (ys_field (S + ml_p z x i) (fd_zA _ _) (nm_r (nI_1 x) hp))
  | succ d ih =>
    intro i hi
    have I := ih (i + 1) (by omega)
    have hv : vp_in (nI i) 5 := vp_in_nI (by omega) (by omega)
    have hcl : zz (nI i).toNatClampNeg = fd_c (z i) := by rw [nI_clamp (by omega)]; exact hz i (by omega)
    refine br_f (nI_ge (by omega) (by omega)) ?_
    by_cases hb : x / 2 ^ i % 2 = 1
    · refine br_t (by rw [sv_b hx (by omega), hb]; rfl) ⟨hv, ys_field (ml_p z x (i + 1)) ?_ (nm_r (nI_1 i) I)⟩
      rw [hcl, fd_zM, ml_p, ml_b, if_pos hb]
    · refine br_f ?_ ⟨hv, ys_field (1 - z i) (by rw [hcl]; exact fd_z1S _) (ys_field (ml_p z x (i + 1)) ?_ (nm_r (nI_1 i) I))⟩
      · rw [sv_b hx (by omega)]
        intro e
        have e' : nI (x / 2 ^ i % 2) = nI 1 := e
        rw [nI_eq (by omega) (by omega)] at e'
        exact hb e'
      · rw [fd_zM, ml_p, ml_b, if_neg hb]
theorem ys_at_l {post : Int64 → Prop} {f c n : Nat} {z : Nat → Int} (hf : f < 2) (hn : n < 6) (hc : c ≤ 6) (ec : cl f = nI c) (hz : ∀ i, i < n → zz i = fd_c (z i))
    (hp : post (fd_c (ml_s (fun x => (tr_v yp yq (6 * f) (nI x) c : Int) * ml_p z x n) (2 ^ n)))) :
    ∀ d x : Nat, x + d = 2 ^ n → wY_at_5 post (nI f) (nI n) yh yd yg yv cl yp yq sd ak zz (d + 1) (fd_c (ml_s (fun x => (tr_v yp yq (6 * f) (nI x) c : Int) * ml_p z x n) x)) (nI x) := by
  have h32 := sv_2 n hn
  intro d
  induction d with
  | zero =>
    intro x hx
    have e : x = 2 ^ n := by omega
    subst e
    exact br_t (by rw [sv_p n hn]; exact nI_le (by omega) (by omega)) hp
  | succ d ih =>
    intro x hx
    have I := ih (x + 1) (by omega)
    have es : ml_s (fun x => (tr_v yp yq (6 * f) (nI x) c : Int) * ml_p z x n) (x + 1) = ml_s (fun x => (tr_v yp yq (6 * f) (nI x) c : Int) * ml_p z x n) x + (tr_v yp yq (6 * f) (nI x) c : Int) * ml_p z x n := rfl
    rw [es] at I
    refine br_f (by rw [sv_p n hn]; exact nI_ge (by omega) (by omega)) (ys_holds hf hn hc ec (by omega) ?_)
    rcases tr_vr yp yq (6 * f) (nI x) c with h | h
    · rw [h] at I ⊢
      rw [show ((0 : Nat) : Int) * ml_p z x n = 0 from Int.zero_mul _, Int.add_zero] at I
      exact br_t rfl (nm_r (nI_1 x) I)
    · rw [h] at I ⊢
      rw [show ((1 : Nat) : Int) * ml_p z x n = ml_p z x n from Int.one_mul _] at I
      exact br_f (by decide) ⟨n + 1, ys_at_in hn (by omega) hz I n 0 (by omega)⟩
/-- F~ of formula f at z -/
theorem ys_at {post : Int64 → Prop} {f c n : Nat} {z : Nat → Int} (hf : f < 2) (hn : n < 6) (hc : c ≤ 6) (ec : cl f = nI c) (hz : ∀ i, i < n → zz i = fd_c (z i))
    (hp : post (fd_c (ml_E (fun x => (tr_v yp yq (6 * f) (nI x) c : Int)) z n 0))) : wpY_at post (nI n, yh, yd, yg, yv, cl, yp, yq, sd, ak, zz) (nI f) := by
  rw [← ml_at] at hp
  exact ⟨2 ^ n + 1, ys_at_l hf hn hc ec hz hp (2 ^ n) 0 (by omega)⟩
theorem ys_both {post : Int64 → Prop} {c : Nat → Nat} {n : Nat} {z : Nat → Int} (hn : n < 6) (hc : ∀ f, f < 2 → c f ≤ 6 ∧ cl f = nI (c f)) (hz : ∀ i, i < n → zz i = fd_c (z i))
    (hp : post (fd_c (ml_E (fun x => (tr_v yp yq (6 * 0) (nI x) (c 0) : Int)) z n 0 * ml_E (fun x => (tr_v yp yq (6 * 1) (nI x) (c 1) : Int)) z n 0))) : wpY_both post (nI n, yh, yd, yg, yv, cl, yp, yq, sd, ak, zz) := by
  unfold wpY_both
  refine ys_at (f := 0) (by decide) hn (hc 0 (by decide)).1 (hc 0 (by decide)).2 hz ?_
  refine ys_at (f := 1) (by decide) hn (hc 1 (by decide)).1 (hc 1 (by decide)).2 hz ?_
  exact ys_field _ (fd_zM _ _) hp
end
