/-! start, challenge, extension -/
theorem rl_fe (p : Int32) : p < 0 ∨ (¬ p < 0 ∧ p = 2147483647) ∨ ∃ x : Nat, x < 2147483647 ∧ p = nI x := by
  by_cases a : p < 0
  · exact Or.inl a
  · obtain ⟨x, hx, rfl⟩ := nI_of a
    by_cases b : x < 2147483647
    · exact Or.inr (Or.inr ⟨x, b, rfl⟩)
    · have e : x = 2147483647 := by omega
      exact Or.inr (Or.inl ⟨a, by rw [e]; rfl⟩)
theorem xs_fe1 {post : Int32 → Prop} {x : Nat} (hx : x < 2147483647) (hp : post 1) : wpX_isFieldElement post (nI x) := by
  refine br_f (nI_pos (by omega)) (br_f ?_ hp)
  rw [fd_i hx, Int64.le_iff_toInt_le, fd_pT, fd_t]
  omega
theorem xs_fem {post : Int32 → Prop} {p : Int32} (h : p < 0) (hp : post 0) : wpX_isFieldElement post p := br_t h hp
theorem xs_feP {post : Int32 → Prop} {p : Int32} (h : ¬ p < 0) (e : p = 2147483647) (hp : post 0) : wpX_isFieldElement post p := by
  refine br_f h (br_t ?_ hp)
  rw [e]
  decide
theorem rl_neP {x : Nat} (hx : x < 2147483647) : ¬ nI x = 2147483647 := by
  intro e
  have e' : nI x = nI 2147483647 := e
  rw [nI_eq (by omega) (by decide)] at e'
  omega
theorem sm_stc (how : Int32) (V : Int) (G : Nat → Int) : sm_st how V G = 1 ∨ sm_st how V G = 3 := by
  unfold sm_st
  split
  · exact Or.inl rfl
  · exact Or.inr rfl
theorem sm_stn (how : Int32) (V : Int) (G : Nat → Int) : ¬ sm_st how V G = 0 := by
  rcases sm_stc how V G with h | h
  · rw [h]
    decide
  · rw [h]
    decide
theorem rl_2 {n m : Nat} (h : m < n) : 2 ^ (n - m) = 2 * 2 ^ (n - m - 1) := by
  rw [show n - m = (n - m - 1) + 1 by omega, Nat.pow_succ, Nat.mul_comm, Nat.add_sub_cancel]
theorem i_vc_start {k : Nat} {u : SX} {v : SY} (I : i_Rel k u v) (hk : k + 4 ≤ 2049) (v1 : Int32) : wpX_start (fun r u' => wpY_start (fun r' v' => r' = r ∧ i_Rel (k + 4) u' v') v v1) u v1 := by
  have J := I
  obtain ⟨n, c, hw, st, xg, xt, yg, xr, yv, cc, ps, ng, ch, se, tb, sd, ak, zz, rfl, rfl, h1, h6, hc, hl⟩ := I
  unfold wpX_start
  rcases rl_fe v1 with a | ⟨a, b⟩ | ⟨x, hx, rfl⟩
  · exact xs_fem a (br_t rfl (br_t a ⟨rfl, J⟩))
  · exact xs_feP a b (br_t rfl (br_f a (br_t b ⟨rfl, J⟩)))
  · have e2 : 2 ^ n = 2 * 2 ^ (n - 1) := rl_2 (n := n) (m := 0) (by omega)
    have h32 := sv_2 n h6
    refine xs_fe1 hx (br_f (by decide) ?_)
    refine xs_fill (f := 0) (c := c 0) (by decide) h6 (hc 0 (by decide)).1 (hc 0 (by decide)).2 (fun t0 a0 b0 => ?_)
    refine xs_fill (f := 1) (c := c 1) (by decide) h6 (hc 1 (by decide)).1 (hc 1 (by decide)).2 (fun t1 a1 b1 => ?_)
    have hT : ∀ f, f < 2 → ∀ j, j < 2 ^ n → t1 (32 * f + j) = fd_c (ml_E (rf_H ps ng c f) (fun i => (((fun _ => 0) : Nat → Nat) i : Int)) 0 j) := by
      intro f hf j hj
      have e : f = 0 ∨ f = 1 := by omega
      rcases e with rfl | rfl
      · rw [b1 (32 * 0 + j) (by omega), a0 j hj]
        rfl
      · rw [a1 j hj]
        rfl
    refine xs_begin (h := 2 ^ (n - 1)) (V := x) (T := fun f => ml_E (rf_H ps ng c f) (fun i => (((fun _ => 0) : Nat → Nat) i : Int)) 0) (by omega) (by rw [e2]) (fd_i hx) (fun f hf j hj => hT f hf j (by omega)) (fun s hs => ?_)
    refine br_f (nI_pos (by omega)) (br_f (rl_neP hx) ?_)
    refine ys_send (m := 0) (k := n - 1) (V := x) (c := c) (r := fun _ => 0) h6 (by omega) (fd_i hx) hc (fun i hi => absurd hi (by omega)) (fun s' z' hs' => ⟨rfl, ?_⟩)
    refine ⟨n, c, hw, _, 0, nI (2 ^ n), 0, (nI x).toInt64, (nI x).toInt64, cc, ps, ng, ch, s, t1, s', ak, z', rfl, rfl, h1, h6, hc, Or.inr ?_⟩
    exact ⟨0, fun _ => 0, x, _, by omega, fun _ => by omega, sm_stn _ _ _, rfl, rfl, fd_i hx, fd_i hx, rfl, hs, hs', fun i hi => absurd hi (by omega), hT⟩
/-- the reference sets its places to the challenges -/
theorem ys_cp71 {post : Int32 → SY → Prop} {n : Nat} {c : Nat → Nat} {r : Nat → Nat} {yh yd yg : Int32} {yv : Int64} {cl yp yq : Nat → Int32} {sd ak zz : Nat → Int64} {V : Int} (hn : n < 6) (hv : yv = fd_c V) (hc : ∀ f, f < 2 → c f ≤ 6 ∧ cl f = nI (c f)) (hr : ∀ i, i < n → ak i = fd_c (r i))
    (hp : ∀ z : Nat → Int64, post (if fd_c V = fd_c (ml_E (rf_H yp yq c 0) (fun i => r i) n 0 * ml_E (rf_H yp yq c 1) (fun i => r i) n 0) then 2 else 3) (nI n, yh, if fd_c V = fd_c (ml_E (rf_H yp yq c 0) (fun i => r i) n 0 * ml_E (rf_H yp yq c 1) (fun i => r i) n 0) then 2 else 3, yg, yv, cl, yp, yq, sd, ak, z)) :
    ∃ N : Nat, wY_challenge_71 post (nI n) yh yd yg yv N 0 cl yp yq sd ak zz := by
  have H : ∀ d i : Nat, i + d = n → ∀ z : Nat → Int64, (∀ j, j < i → z j = fd_c (r j)) → wY_challenge_71 post (nI n) yh yd yg yv (d + 1) (nI i) cl yp yq sd ak z := by
    intro d
    induction d with
    | zero =>
      intro i hi z hz
      have e : i = n := by omega
      subst e
      refine br_t (nI_le (by omega) (by omega)) (ys_both (c := c) (z := fun j => r j) hn hc hz ?_)
      have Q := hp z
      subst hv
      by_cases g : fd_c V = fd_c (ml_E (rf_H yp yq c 0) (fun i => r i) i 0 * ml_E (rf_H yp yq c 1) (fun i => r i) i 0)
      · rw [if_pos g] at Q
        exact br_t g.symm Q
      · rw [if_neg g] at Q
        exact br_f (fun q => g q.symm) Q
    | succ d ih =>
      intro i hi z hz
      have hv : vp_in (nI i) 5 := vp_in_nI (by omega) (by omega)
      have hcl : (nI i).toNatClampNeg = i := nI_clamp (by omega)
      refine br_f (nI_ge (by omega) (by omega)) ⟨hv, hv, fun z' ez => nm_r (nI_1 i) (ih (i + 1) (by omega) z' ?_)⟩
      intro j hj
      rw [ez, hcl]
      by_cases e : j = i
      · rw [e, pk_uLs]
        exact hr i (by omega)
      · rw [pk_uLn (by omega)]
        exact hz j (by omega)
  exact ⟨n + 1, H n 0 (by omega) zz (fun j hj => absurd hj (by omega))⟩
theorem ys_cp31 {post : Int32 → SY → Prop} {n f : Nat} {c : Nat → Nat} {r : Nat → Nat} {yh yd yg : Int32} {yv : Int64} {cl yp yq : Nat → Int32} {sd ak zz : Nat → Int64} (hf : f < 2) (hn : n < 6) (hc : ∀ f, f < 2 → c f ≤ 6 ∧ cl f = nI (c f)) (hr : ∀ i, i < n → ak i = fd_c (r i))
    (hp : ∀ z : Nat → Int64, post (fd_c (ml_E (rf_H yp yq c f) (fun i => r i) n 0)).toInt32 (nI n, yh, yd, yg, yv, cl, yp, yq, sd, ak, z)) :
    ∃ N : Nat, wY_extension_31 post (nI f) (nI n) yh yd yg yv N 0 cl yp yq sd ak zz := by
  have H : ∀ d i : Nat, i + d = n → ∀ z : Nat → Int64, (∀ j, j < i → z j = fd_c (r j)) → wY_extension_31 post (nI f) (nI n) yh yd yg yv (d + 1) (nI i) cl yp yq sd ak z := by
    intro d
    induction d with
    | zero =>
      intro i hi z hz
      have e : i = n := by omega
      subst e
      exact br_t (nI_le (by omega) (by omega)) (ys_at (z := fun j => r j) hf hn (hc f hf).1 (hc f hf).2 hz (hp z))
    | succ d ih =>
      intro i hi z hz
      have hv : vp_in (nI i) 5 := vp_in_nI (by omega) (by omega)
      have hcl : (nI i).toNatClampNeg = i := nI_clamp (by omega)
      refine br_f (nI_ge (by omega) (by omega)) ⟨hv, hv, fun z' ez => nm_r (nI_1 i) (ih (i + 1) (by omega) z' ?_)⟩
      intro j hj
      rw [ez, hcl]
      by_cases e : j = i
      · rw [e, pk_uLs]
        exact hr i (by omega)
      · rw [pk_uLn (by omega)]
        exact hz j (by omega)
  exact ⟨n + 1, H n 0 (by omega) zz (fun j hj => absurd hj (by omega))⟩
theorem i_vc_extension {k : Nat} {u : SX} {v : SY} (I : i_Rel k u v) (hk : k + 4 ≤ 2049) (v1 : Int32) : wpX_extension (fun r => wpY_extension (fun r' v' => r' = r ∧ i_Rel (k + 4) u v') v v1) u v1 := by
  have J := I
  obtain ⟨n, c, hw, st, xg, xt, yg, xr, yv, cc, ps, ng, ch, se, tb, sd, ak, zz, rfl, rfl, h1, h6, hc, hl⟩ := I
  have hl' := hl
  rcases hl with ⟨e1, _⟩ | ⟨m, r, V, S, hm, hs1, hs0, rfl, rfl, e3, e4, e5, e6, e7, e8, e9⟩
  · exact br_t e1 (br_t e1 ⟨rfl, J⟩)
  · unfold wpX_extension
    refine br_f hs0 ?_
    rcases rl_f v1 with ⟨f, hf, rfl⟩ | ⟨g0, g1⟩
    · refine xs_f1 hf (br_f (by decide) ?_)
      by_cases b : n ≤ m
      · have e : m = n := by omega
        subst e
        have ei : nI f * 32 = nI (32 * f) := by rw [Nat.mul_comm]; exact pk_mul f 32
        have hi : vp_in (nI f * 32) 64 := by rw [ei]; exact vp_in_nI (by omega) (by omega)
        have ht : tb (nI f * 32).toNatClampNeg = fd_c (ml_E (rf_H ps ng c f) (fun i => r i) m 0) := by
          rw [ei, nI_clamp (by omega)]
          exact e9 f hf 0 (Nat.two_pow_pos _)
        have H : ∃ N : Nat, wY_extension_31 (fun r' v' => r' = (tb (nI f * 32).toNatClampNeg).toInt32 ∧ i_Rel (k + 4) (nI m, nI (2 ^ m), hw, st, nI m, xr, xt, cc, ps, ng, ch, se, tb) v') (nI f) (nI m) hw st (nI m) yv N 0 cc ps ng sd ak zz :=
          ys_cp31 hf h6 hc (fun i hi => (e8 i hi).2.2) (fun z => ⟨by rw [ht], ⟨m, c, hw, st, nI m, xt, nI m, xr, yv, cc, ps, ng, ch, se, tb, sd, ak, z, rfl, rfl, h1, h6, hc, hl'⟩⟩)
        refine br_t (nI_le (by omega) (by omega)) ⟨hi, br_f hs0 (br_f (nI_nlt (by omega) (by omega)) ?_)⟩
        have e : f = 0 ∨ f = 1 := by omega
        rcases e with rfl | rfl
        · exact br_t rfl H
        · exact br_f (by decide) (br_t rfl H)
      · exact br_f (nI_ge (by omega) (by omega)) (br_f hs0 (br_t (nI_lt (by omega) (by omega)) ⟨rfl, J⟩))
    · refine xs_f0 g0 g1 (br_t rfl (br_f hs0 ?_))
      exact br_c (fun _ => ⟨rfl, J⟩) (fun _ => br_f g0 (br_f g1 ⟨rfl, J⟩))
