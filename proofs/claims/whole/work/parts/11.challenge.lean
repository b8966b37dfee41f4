/-! challenge -/
theorem rl_bind (H : Nat → Int) (r : Nat → Nat) (m x j : Nat) : ml_f (ml_E H (fun i => (r i : Int)) m) (x : Int) j = ml_E H (fun i => (((fun i => if i = m then x else r i) : Nat → Nat) i : Int)) (m + 1) j := by
  have e : ml_E H (fun i => (((fun i => if i = m then x else r i) : Nat → Nat) i : Int)) m = ml_E H (fun i => (r i : Int)) m := by
    apply ml_E_c
    intro i hi
    show ((if i = m then x else r i : Nat) : Int) = (r i : Int)
    rw [if_neg (by omega)]
  show _ = ml_f (ml_E H (fun i => (((fun i => if i = m then x else r i) : Nat → Nat) i : Int)) m) ((if m = m then x else r m : Nat) : Int) j
  rw [e, if_pos rfl]
theorem rl_asked {r : Nat → Nat} {m x : Nat} {ch : Nat → Int32} {ak : Nat → Int64} (hx : x < 2147483647) (h : ∀ i, i < m → r i < 2147483647 ∧ ch i = nI (r i) ∧ ak i = fd_c (r i)) :
    ∀ i, i < m + 1 → (fun i => if i = m then x else r i) i < 2147483647 ∧ upd ch m (nI x) i = nI ((fun i => if i = m then x else r i) i) ∧ vp_updL ak m (fd_c x) i = fd_c ((fun i => if i = m then x else r i) i : Nat) := by
  intro i hi
  show (if i = m then x else r i) < 2147483647 ∧ upd ch m (nI x) i = nI (if i = m then x else r i) ∧ vp_updL ak m (fd_c x) i = fd_c ((if i = m then x else r i : Nat) : Int)
  by_cases e : i = m
  · rw [if_pos e, e, pk_us, pk_uLs]
    exact ⟨hx, rfl, rfl⟩
  · rw [if_neg e, pk_un e, pk_uLn e]
    exact h i (by omega)
theorem i_vc_challenge {k : Nat} {u : SX} {v : SY} (I : i_Rel k u v) (hk : k + 4 ≤ 2049) (v1 : Int32) : wpX_challenge (fun r u' => wpY_challenge (fun r' v' => r' = r ∧ i_Rel (k + 4) u' v') v v1) u v1 := by
  have J := I
  obtain ⟨n, c, hw, st, xg, xt, yg, xr, yv, cc, ps, ng, ch, se, tb, sd, ak, zz, rfl, rfl, h1, h6, hc, hl⟩ := I
  unfold wpX_challenge
  by_cases a : st = 1
  · rcases hl with ⟨e1, _⟩ | ⟨m, r, V, S, hm, hs1, hs0, rfl, rfl, e3, e4, rfl, e6, e7, e8, e9⟩
    · exact absurd (e1.symm.trans a) (by decide)
    · have hmn := hs1 a
      subst a
      refine br_t rfl ?_
      rcases rl_fe v1 with b | ⟨b, b'⟩ | ⟨x, hx, rfl⟩
      · exact xs_fem b (br_t rfl (br_t rfl (br_t b ⟨rfl, J⟩)))
      · exact xs_feP b b' (br_t rfl (br_t rfl (br_f b (br_t b' ⟨rfl, J⟩))))
      · have e2 : 2 ^ (n - m) = 2 * 2 ^ (n - m - 1) := rl_2 hmn
        have h32 := sv_2 (n - m) (by omega)
        have hcm : (nI m).toNatClampNeg = m := nI_clamp (by omega)
        have him : vp_in (nI m) 5 := vp_in_nI (by omega) (by omega)
        have ehalf : nI (2 ^ (n - m)) / 2 = nI (2 ^ (n - (m + 1))) := by
          rw [e2, xs_half (by omega), show n - (m + 1) = n - m - 1 by omega]
        have hr := rl_asked hx e8
        refine xs_fe1 hx (br_f (by decide) ?_)
        refine xs_poly e6 x (fd_i hx) ⟨him, nm_r (e' := upd ch m (nI x)) (by rw [hcm]) (nm_r (nI_1 m) ?_)⟩
        refine xs_bind (f := 0) (h := 2 ^ (n - m - 1)) (T := ml_E (rf_H ps ng c 0) (fun i => r i) m) (by decide) (by omega) (by rw [e2]) (fun i hi => e9 0 (by decide) i (by omega)) x (fd_i hx) (fun t0 a0 b0 => ?_)
        refine xs_bind (f := 1) (h := 2 ^ (n - m - 1)) (T := ml_E (rf_H ps ng c 1) (fun i => r i) m) (by decide) (by omega) (by rw [e2]) (fun i hi => (b0 (32 * 1 + i) (by omega)).trans (e9 1 (by decide) i (by omega))) x (fd_i hx) (fun t1 a1 b1 => ?_)
        have hT : ∀ f, f < 2 → ∀ j, j < 2 ^ (n - (m + 1)) → t1 (32 * f + j) = fd_c (ml_E (rf_H ps ng c f) (fun i => (((fun i => if i = m then x else r i) : Nat → Nat) i : Int)) (m + 1) j) := by
          intro f hf j hj
          rw [show n - (m + 1) = n - m - 1 by omega] at hj
          rw [← rl_bind]
          have e : f = 0 ∨ f = 1 := by omega
          rcases e with rfl | rfl
          · rw [b1 (32 * 0 + j) (by omega), a0 j hj]
          · rw [a1 j hj]
        have ey : ∀ post : Int32 → SY → Prop, (wpY_through (fun r_7 => (((nI n ≤ nI (m + 1) → (∃ N : Nat, wY_challenge_71 post (nI n) hw 1 (nI (m + 1)) r_7 N 0 cc ps ng sd (vp_updL ak m (fd_c x)) zz)) ∧ (¬ nI n ≤ nI (m + 1) → (wpY_send (fun u => match u with | (f_n, f_how, f_doing, f_given, f_value, a_clauses, a_pos, a_neg, a_said, a_asked, a_z) => (post f_doing (f_n, f_how, f_doing, f_given, f_value, a_clauses, a_pos, a_neg, a_said, a_asked, a_z))) (nI n, hw, 1, nI (m + 1), r_7, cc, ps, ng, sd, vp_updL ak m (fd_c x), zz)))))) (nI n, hw, 1, nI (m + 1), yv, cc, ps, ng, sd, vp_updL ak m (fd_c x), zz) (nI x).toInt64) → wpY_challenge post (nI n, hw, 1, nI m, yv, cc, ps, ng, sd, ak, zz) (nI x) := by
          intro post H
          exact br_t rfl (br_f (nI_pos (by omega)) (br_f (rl_neP hx) ⟨him, nm_r (by rw [hcm, fd_i hx]) (nm_r (nI_1 m) H)⟩))
        refine ⟨by decide, nm_r ehalf ?_⟩
        by_cases g : n ≤ m + 1
        · have en : m + 1 = n := by omega
          have g' : nI n ≤ nI (m + 1) := nI_le g (by omega)
          have z0 : 0 < 2 ^ (n - (m + 1)) := Nat.two_pow_pos _
          refine br_t g' (xs_end (V := sm_N S x) rfl (hT 0 (by decide) 0 z0) (hT 1 (by decide) 0 z0) ?_)
          refine ey _ (ys_through e7 x (fd_i hx) (br_t g' ?_))
          refine ys_cp71 (V := sm_N S x) (c := c) (r := fun i => if i = m then x else r i) h6 rfl hc (fun i hi => (hr i (by omega)).2.2) (fun z => ?_)
          rw [en]
          rw [en] at hT hr
          refine ⟨rfl, n, c, hw, _, nI n, nI (2 ^ (n - n)), nI n, fd_c (sm_N S x), fd_c (sm_N S x), cc, ps, ng, upd ch m (nI x), se, t1, sd, vp_updL ak m (fd_c x), z, rfl, rfl, h1, h6, hc, Or.inr ?_⟩
          refine ⟨n, fun i => if i = m then x else r i, sm_N S x, S, by omega, ?_, ?_, rfl, rfl, rfl, rfl, rfl, e6, e7, hr, hT⟩
          · split
            · exact fun q => absurd q (by decide)
            · exact fun q => absurd q (by decide)
          · split
            · decide
            · decide
        · have g' : ¬ nI n ≤ nI (m + 1) := nI_ge (by omega) (by omega)
          have e3 : 2 ^ (n - (m + 1)) = 2 * 2 ^ (n - (m + 1) - 1) := rl_2 (by omega)
          have h33 := sv_2 (n - (m + 1)) (by omega)
          refine br_f g' ?_
          refine xs_begin (h := 2 ^ (n - (m + 1) - 1)) (V := sm_N S x) (T := fun f => ml_E (rf_H ps ng c f) (fun i => (((fun i => if i = m then x else r i) : Nat → Nat) i : Int)) (m + 1)) (by omega) (by rw [e3]) rfl (fun f hf j hj => hT f hf j (by omega)) (fun s hs => ?_)
          refine ey _ (ys_through e7 x (fd_i hx) (br_f g' ?_))
          refine ys_send (m := m + 1) (k := n - (m + 1) - 1) (V := sm_N S x) (c := c) (r := fun i => if i = m then x else r i) h6 (by omega) rfl hc (fun i hi => (hr i hi).2.2) (fun s' z' hs' => ⟨rfl, ?_⟩)
          refine ⟨n, c, hw, _, nI (m + 1), nI (2 ^ (n - (m + 1))), nI (m + 1), fd_c (sm_N S x), fd_c (sm_N S x), cc, ps, ng, upd ch m (nI x), s, t1, s', vp_updL ak m (fd_c x), z', rfl, rfl, h1, h6, hc, Or.inr ?_⟩
          exact ⟨m + 1, fun i => if i = m then x else r i, sm_N S x, _, by omega, fun _ => by omega, sm_stn _ _ _, rfl, rfl, rfl, rfl, rfl, hs, hs', hr, hT⟩
  · exact br_f a (br_f a ⟨rfl, J⟩)
