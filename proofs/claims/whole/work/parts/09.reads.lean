/-! the methods that change nothing, and manner -/
theorem rl_ltA {n : Nat} (h6 : n < 6) {x : Nat} (hx : x < 2 ^ 31) : nI x < nI (2 ^ n) ↔ x < 2 ^ n := nI_ltI hx (by have := sv_2 n h6; omega)
theorem i_vc_holds {k : Nat} {u : SX} {v : SY} (I : i_Rel k u v) (hk : k + 4 ≤ 2049) (v1 : Int32) (v2 : Int32) : wpX_holds (fun r => wpY_holds (fun r' => r' = r ∧ i_Rel (k + 4) u v) v v1 v2) u v1 v2 := by
  have J := I
  obtain ⟨n, c, hw, st, xg, xt, yg, xr, yv, cc, ps, ng, ch, se, tb, sd, ak, zz, rfl, rfl, h1, h6, hc, hl⟩ := I
  unfold wpX_holds
  rcases rl_f v1 with ⟨f, hf, rfl⟩ | ⟨g0, g1⟩
  · refine xs_f1 hf (br_f (by decide) ?_)
    have sp : ∀ post : Int32 → Prop, wY_holds_9 post (nI f) v2 (nI n) hw st yg yv cc ps ng sd ak zz → wpY_holds post (nI n, hw, st, yg, yv, cc, ps, ng, sd, ak, zz) (nI f) v2 := by
      intro post H
      have e : f = 0 ∨ f = 1 := by omega
      rcases e with rfl | rfl
      · exact br_t rfl H
      · exact br_f (by decide) (br_t rfl H)
    by_cases a : v2 < 0
    · exact br_t a (sp _ (br_t a ⟨rfl, J⟩))
    · obtain ⟨x, hx, rfl⟩ := nI_of a
      refine br_f a ?_
      by_cases b : x < 2 ^ n
      · refine br_t ((rl_ltA h6 hx).mpr b) ?_
        refine xs_isTrue hf (hc f hf).1 (hc f hf).2 (nI x) ⟨tr_nb _ _ _ _ _, ?_⟩
        exact ys_holds hf h6 (hc f hf).1 (hc f hf).2 b ⟨rfl, J⟩
      · have b' : ¬ nI x < nI (2 ^ n) := fun z => b ((rl_ltA h6 hx).mp z)
        exact br_f b' (sp _ (br_f a (br_f (by rw [sv_p n h6]; exact b') ⟨rfl, J⟩)))
  · exact xs_f0 g0 g1 (br_t rfl (br_f g0 (br_f g1 ⟨rfl, J⟩)))
/-- how many of the first x assignments make both true -/
noncomputable def ct_n (ps ng : Nat → Int32) (c : Nat → Nat) : Nat → Nat
  | 0 => 0
  | x + 1 => ct_n ps ng c x + tr_v ps ng (6 * 0) (nI x) (c 0) * tr_v ps ng (6 * 1) (nI x) (c 1)
theorem xs_count {xm xs xg xt : Int32} {xv : Int32} {xr : Int64} {cc ps ng ch : Nat → Int32} {se tb : Nat → Int64} {post : Int32 → Prop} {n : Nat} {c : Nat → Nat} (h6 : n < 6) (hc : ∀ f, f < 2 → c f ≤ 6 ∧ cc f = nI (c f)) (hp : post (nI (ct_n ps ng c (2 ^ n)))) :
    wpX_count post (xv, nI (2 ^ n), xm, xs, xg, xr, xt, cc, ps, ng, ch, se, tb) := by
  have h32 := sv_2 n h6
  have H : ∀ d x : Nat, x + d = 2 ^ n → wX_count_4 post xv (nI (2 ^ n)) xm xs xg xr xt cc ps ng ch se tb (d + 1) (nI (ct_n ps ng c x)) (nI x) := by
    intro d
    induction d with
    | zero =>
      intro x hx
      have e : x = 2 ^ n := by omega
      subst e
      exact br_t (nI_le (by omega) (by omega)) hp
    | succ d ih =>
      intro x hx
      have I := ih (x + 1) (by omega)
      have es : ct_n ps ng c (x + 1) = ct_n ps ng c x + tr_v ps ng (6 * 0) (nI x) (c 0) * tr_v ps ng (6 * 1) (nI x) (c 1) := rfl
      rw [es] at I
      refine br_f (nI_ge (by omega) (by omega)) (xs_isTrue (f := 0) (by decide) (hc 0 (by decide)).1 (hc 0 (by decide)).2 (nI x) ?_)
      rcases tr_vr ps ng (6 * 0) (nI x) (c 0) with a | a
      · rw [a] at I ⊢
        rw [Nat.zero_mul, Nat.add_zero] at I
        exact br_t rfl (nm_r (nI_1 x) I)
      · rw [a] at I ⊢
        rw [Nat.one_mul] at I
        refine br_f (by decide) (xs_isTrue (f := 1) (by decide) (hc 1 (by decide)).1 (hc 1 (by decide)).2 (nI x) ?_)
        rcases tr_vr ps ng (6 * 1) (nI x) (c 1) with b | b
        · rw [b] at I ⊢
          rw [Nat.add_zero] at I
          exact br_t rfl (nm_r (nI_1 x) I)
        · rw [b] at I ⊢
          exact br_f (by decide) (nm_r (nI_1 _) (nm_r (nI_1 x) I))
  exact ⟨2 ^ n + 1, H (2 ^ n) 0 (by omega)⟩
theorem ys_count {yh yd yg : Int32} {yv : Int64} {cl ps ng : Nat → Int32} {sd ak zz : Nat → Int64} {post : Int32 → Prop} {n : Nat} {c : Nat → Nat} (h6 : n < 6) (hc : ∀ f, f < 2 → c f ≤ 6 ∧ cl f = nI (c f)) (hp : post (nI (ct_n ps ng c (2 ^ n)))) :
    wpY_count post (nI n, yh, yd, yg, yv, cl, ps, ng, sd, ak, zz) := by
  have h32 := sv_2 n h6
  have H : ∀ d x : Nat, x + d = 2 ^ n → wY_count_4 post (nI n) yh yd yg yv cl ps ng sd ak zz (d + 1) (nI (ct_n ps ng c x)) (nI x) := by
    intro d
    induction d with
    | zero =>
      intro x hx
      have e : x = 2 ^ n := by omega
      subst e
      exact br_t (by rw [sv_p n h6]; exact nI_le (by omega) (by omega)) hp
    | succ d ih =>
      intro x hx
      have I := ih (x + 1) (by omega)
      have es : ct_n ps ng c (x + 1) = ct_n ps ng c x + tr_v ps ng (6 * 0) (nI x) (c 0) * tr_v ps ng (6 * 1) (nI x) (c 1) := rfl
      rw [es] at I
      refine br_f (by rw [sv_p n h6]; exact nI_ge (by omega) (by omega)) (ys_holds (f := 0) (by decide) h6 (hc 0 (by decide)).1 (hc 0 (by decide)).2 (by omega) ?_)
      rcases tr_vr ps ng (6 * 0) (nI x) (c 0) with a | a
      · rw [a] at I ⊢
        rw [Nat.zero_mul, Nat.add_zero] at I
        exact br_t rfl (nm_r (Int32.add_zero _) (nm_r (nI_1 x) I))
      · rw [a] at I ⊢
        rw [Nat.one_mul] at I
        refine br_f (by decide) (ys_holds (f := 1) (by decide) h6 (hc 1 (by decide)).1 (hc 1 (by decide)).2 (by omega) ?_)
        rcases tr_vr ps ng (6 * 1) (nI x) (c 1) with b | b
        · rw [b] at I ⊢
          rw [Nat.add_zero] at I
          exact br_t rfl (nm_r (Int32.add_zero _) (nm_r (nI_1 x) I))
        · rw [b] at I ⊢
          exact br_f (by decide) (nm_r (nI_1 _) (nm_r (nI_1 x) I))
  exact ⟨2 ^ n + 1, H (2 ^ n) 0 (by omega)⟩
theorem i_vc_count {k : Nat} {u : SX} {v : SY} (I : i_Rel k u v) (hk : k + 4 ≤ 2049) : wpX_count (fun r => wpY_count (fun r' => r' = r ∧ i_Rel (k + 4) u v) v) u := by
  have J := I
  obtain ⟨n, c, hw, st, xg, xt, yg, xr, yv, cc, ps, ng, ch, se, tb, sd, ak, zz, rfl, rfl, h1, h6, hc, hl⟩ := I
  exact xs_count h6 hc (ys_count h6 hc ⟨rfl, J⟩)
theorem i_vc_manner {k : Nat} {u : SX} {v : SY} (I : i_Rel k u v) (hk : k + 4 ≤ 2049) (v1 : Int32) : wpX_manner (fun r u' => wpY_manner (fun r' v' => r' = r ∧ i_Rel (k + 4) u' v') v v1) u v1 := by
  have J := I
  obtain ⟨n, c, hw, st, xg, xt, yg, xr, yv, cc, ps, ng, ch, se, tb, sd, ak, zz, rfl, rfl, h1, h6, hc, hl⟩ := I
  by_cases a : v1 < 0
  · exact br_t a (br_t a ⟨rfl, J⟩)
  · by_cases b : v1 ≤ 2
    · exact br_f a (br_t b (br_f a (br_t b ⟨rfl, n, c, v1, st, xg, xt, yg, xr, yv, _, _, _, _, _, _, _, _, _, rfl, rfl, h1, h6, hc, hl⟩)))
    · exact br_f a (br_f b (br_f a (br_f b ⟨rfl, J⟩)))
theorem i_vc_status {k : Nat} {u : SX} {v : SY} (I : i_Rel k u v) (hk : k + 4 ≤ 2049) : wpX_status (fun r => wpY_status (fun r' => r' = r ∧ i_Rel (k + 4) u v) v) u := by
  have J := I
  obtain ⟨n, c, hw, st, xg, xt, yg, xr, yv, cc, ps, ng, ch, se, tb, sd, ak, zz, rfl, rfl, h1, h6, hc, hl⟩ := I
  exact ⟨rfl, J⟩
theorem i_vc_round {k : Nat} {u : SX} {v : SY} (I : i_Rel k u v) (hk : k + 4 ≤ 2049) : wpX_round (fun r => wpY_round (fun r' => r' = r ∧ i_Rel (k + 4) u v) v) u := by
  have J := I
  obtain ⟨n, c, hw, st, xg, xt, yg, xr, yv, cc, ps, ng, ch, se, tb, sd, ak, zz, rfl, rfl, h1, h6, hc, hl⟩ := I
  rcases hl with ⟨e1, e2⟩ | ⟨m, r, V, S, hm, hs1, hs0, e1, e2, _⟩
  · exact br_t e1 ⟨e2.symm, J⟩
  · exact br_f hs0 ⟨e2.trans e1.symm, J⟩
theorem i_vc_message {k : Nat} {u : SX} {v : SY} (I : i_Rel k u v) (hk : k + 4 ≤ 2049) (v1 : Int32) : wpX_message (fun r => wpY_message (fun r' => r' = r ∧ i_Rel (k + 4) u v) v v1) u v1 := by
  have J := I
  obtain ⟨n, c, hw, st, xg, xt, yg, xr, yv, cc, ps, ng, ch, se, tb, sd, ak, zz, rfl, rfl, h1, h6, hc, hl⟩ := I
  rcases hl with ⟨e1, _⟩ | ⟨m, r, V, S, hm, hs1, hs0, e1, e2, e3, e4, e5, e6, e7, _⟩
  · exact br_t e1 (br_t e1 ⟨rfl, J⟩)
  · refine br_f hs0 ?_
    by_cases a : v1 < 0
    · exact br_t a (br_f hs0 (br_t a ⟨rfl, J⟩))
    · obtain ⟨x, hx, rfl⟩ := nI_of a
      refine br_f a ?_
      by_cases b : x < 3
      · have hi : vp_in (nI x) 3 := vp_in_nI b (by decide)
        refine br_t (nI_lt (b := 3) b (by decide)) ⟨hi, br_f hs0 (br_f a (br_t (nI_le (b := 2) (by omega) (by decide)) ⟨hi, ?_, J⟩))⟩
        rw [nI_clamp hx, e6 x b, e7 x b]
      · exact br_f (nI_nlt (b := 3) (by omega) hx) (br_f hs0 (br_f a (br_f (nI_ge (a := 2) (by omega) hx) ⟨rfl, J⟩)))
theorem i_vc_running {k : Nat} {u : SX} {v : SY} (I : i_Rel k u v) (hk : k + 4 ≤ 2049) : wpX_running (fun r => wpY_running (fun r' => r' = r ∧ i_Rel (k + 4) u v) v) u := by
  have J := I
  obtain ⟨n, c, hw, st, xg, xt, yg, xr, yv, cc, ps, ng, ch, se, tb, sd, ak, zz, rfl, rfl, h1, h6, hc, hl⟩ := I
  rcases hl with ⟨e1, _⟩ | ⟨m, r, V, S, hm, hs1, hs0, e1, e2, e3, e4, _⟩
  · exact br_t e1 (br_t e1 ⟨rfl, J⟩)
  · refine br_f hs0 (br_f hs0 ⟨?_, J⟩)
    rw [e3, e4]
theorem i_vc_challengeAt {k : Nat} {u : SX} {v : SY} (I : i_Rel k u v) (hk : k + 4 ≤ 2049) (v1 : Int32) : wpX_challengeAt (fun r => wpY_challengeAt (fun r' => r' = r ∧ i_Rel (k + 4) u v) v v1) u v1 := by
  have J := I
  obtain ⟨n, c, hw, st, xg, xt, yg, xr, yv, cc, ps, ng, ch, se, tb, sd, ak, zz, rfl, rfl, h1, h6, hc, hl⟩ := I
  rcases hl with ⟨e1, _⟩ | ⟨m, r, V, S, hm, hs1, hs0, rfl, rfl, e3, e4, e5, e6, e7, e8, _⟩
  · exact br_t e1 (br_t e1 ⟨rfl, J⟩)
  · refine br_f hs0 ?_
    by_cases a : v1 < 0
    · exact br_t a (br_f hs0 (br_t a ⟨rfl, J⟩))
    · obtain ⟨x, hx, rfl⟩ := nI_of a
      refine br_f a ?_
      by_cases b : x < m
      · have hi : vp_in (nI x) 5 := vp_in_nI (by omega) (by decide)
        have hb : nI x < nI m := nI_lt b (by omega)
        refine br_t hb ⟨hi, br_f hs0 (br_f a (br_t hb ⟨hi, ?_, J⟩))⟩
        obtain ⟨q1, q2, q3⟩ := e8 x b
        rw [nI_clamp hx, q2, q3, fd_back q1]
      · have hb : ¬ nI x < nI m := nI_nlt (by omega) hx
        exact br_f hb (br_f hs0 (br_f a (br_f hb ⟨rfl, J⟩)))
