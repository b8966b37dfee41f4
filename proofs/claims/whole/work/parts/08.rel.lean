/-! the relation, and the methods that start and end no run -/
/-- a run that is not idle: m challenges r, the running value V, the message S -/
def rl_live (n : Nat) (c : Nat → Nat) (ps ng : Nat → Int32) (st xg xt yg : Int32) (xr yv : Int64) (ch : Nat → Int32) (se tb sd ak : Nat → Int64) : Prop :=
  ∃ (m : Nat) (r : Nat → Nat) (V : Int) (S : Nat → Int), m ≤ n ∧ (st = 1 → m < n) ∧ ¬ st = 0 ∧ xg = nI m ∧ yg = nI m ∧ xr = fd_c V ∧ yv = fd_c V ∧ xt = nI (2 ^ (n - m)) ∧
    (∀ i, i < 3 → se i = fd_c (S i)) ∧ (∀ i, i < 3 → sd i = fd_c (S i)) ∧ (∀ i, i < m → r i < 2147483647 ∧ ch i = nI (r i) ∧ ak i = fd_c (r i)) ∧
    (∀ f, f < 2 → ∀ j, j < 2 ^ (n - m) → tb (32 * f + j) = fd_c (ml_E (rf_H ps ng c f) (fun i => r i) m j))
def i_Rel (_ : Nat) (u : SX) (v : SY) : Prop :=
  ∃ (n : Nat) (c : Nat → Nat) (hw st xg xt yg : Int32) (xr yv : Int64) (cc ps ng ch : Nat → Int32) (se tb sd ak zz : Nat → Int64),
    u = (nI n, nI (2 ^ n), hw, st, xg, xr, xt, cc, ps, ng, ch, se, tb) ∧ v = (nI n, hw, st, yg, yv, cc, ps, ng, sd, ak, zz) ∧ 1 ≤ n ∧ n < 6 ∧ (∀ f, f < 2 → c f ≤ 6 ∧ cc f = nI (c f)) ∧
    ((st = 0 ∧ xg = 0) ∨ rl_live n c ps ng st xg xt yg xr yv ch se tb sd ak)
theorem i_up {k : Nat} {u : SX} {v : SY} (h : i_Rel k u v) : i_Rel (k + 4) u v := h
theorem rl_0 {n : Nat} (h1 : 1 ≤ n) (h6 : n < 6) : i_Rel 1 (nI n, (1 : Int32) <<< (nI n &&& 31), 0, 0, 0, 0, 0, fun _ => 0, fun _ => 0, fun _ => 0, fun _ => 0, fun _ => 0, fun _ => 0) (nI n, 0, 0, 0, 0, fun _ => 0, fun _ => 0, fun _ => 0, fun _ => 0, fun _ => 0, fun _ => 0) := by
  rw [sv_p n h6]
  exact ⟨n, fun _ => 0, 0, 0, 0, 0, 0, 0, 0, _, _, _, _, _, _, _, _, _, rfl, rfl, h1, h6, fun f _ => ⟨Nat.zero_le 6, nI_0.symm⟩, Or.inl ⟨rfl, rfl⟩⟩
theorem i_vc0 (k0 : Int32) : wpX_init (fun u => wpY_init (fun v => i_Rel 1 u v) k0) k0 := by
  by_cases a : 1 ≤ k0
  · refine br_t a ?_
    by_cases b : k0 ≤ 5
    · have h0 : ¬ k0 < 0 := by
        rw [Int32.not_lt]
        exact Int32.le_trans (by decide) a
      obtain ⟨j, hj, rfl⟩ := nI_of h0
      have a' : nI 1 ≤ nI j := a
      have b' : nI j ≤ nI 5 := b
      rw [nI_leI (by omega) (by omega)] at a' b'
      exact br_t b (nm_e (br_t a (br_t b (rl_0 a' (by omega)))))
    · exact br_f b (nm_e (br_t a (br_f b (rl_0 (n := 5) (by decide) (by decide)))))
  · refine br_f a (br_t (by decide) (nm_e (br_f a (rl_0 (n := 1) (by decide) (by decide)))))
section
variable {xv xa xm xs xg xt : Int32} {xr : Int64} {cc ps ng ch : Nat → Int32} {se tb : Nat → Int64}
theorem xs_f1 {post : Int32 → Prop} {f : Nat} (hf : f < 2) (hp : post 1) : wpX_isFormula post (nI f) := by
  have e : f = 0 ∨ f = 1 := by omega
  rcases e with rfl | rfl
  · exact br_t rfl hp
  · exact br_f (by decide) (br_t rfl hp)
theorem xs_f0 {post : Int32 → Prop} {p : Int32} (h0 : ¬ p = 0) (h1 : ¬ p = 1) (hp : post 0) : wpX_isFormula post p := br_f h0 (br_f h1 hp)
theorem xs_v1 {post : Int32 → Prop} {p : Int32} (h : (p.toUInt32 >>> (xv.toUInt32 &&& Int32.toUInt32 31)).toInt32 = 0) (hp : post 1) : wpX_isVariableSet post (xv, xa, xm, xs, xg, xr, xt, cc, ps, ng, ch, se, tb) p := br_t h hp
theorem xs_v0 {post : Int32 → Prop} {p : Int32} (h : ¬ (p.toUInt32 >>> (xv.toUInt32 &&& Int32.toUInt32 31)).toInt32 = 0) (hp : post 0) : wpX_isVariableSet post (xv, xa, xm, xs, xg, xr, xt, cc, ps, ng, ch, se, tb) p := br_f h hp
theorem xs_clause {post : Int32 → SX → Prop} {f c : Nat} {p q : Int32} (hf : f < 2) (hP : (p.toUInt32 >>> (xv.toUInt32 &&& Int32.toUInt32 31)).toInt32 = 0) (hQ : (q.toUInt32 >>> (xv.toUInt32 &&& Int32.toUInt32 31)).toInt32 = 0) (ec : cc f = nI c) (hc : c ≤ 6)
    (h6 : c = 6 → post (-2) (xv, xa, xm, xs, xg, xr, xt, cc, ps, ng, ch, se, tb))
    (hp : c < 6 → post 0 (xv, xa, xm, 0, 0, xr, xt, upd cc f (nI (c + 1)), upd ps (6 * f + c) p, upd ng (6 * f + c) q, ch, se, tb)) : wpX_clause post (xv, xa, xm, xs, xg, xr, xt, cc, ps, ng, ch, se, tb) (nI f) p q := by
  have hfi : vp_in (nI f) 2 := vp_in_nI hf (by omega)
  have hfc : (nI f).toNatClampNeg = f := nI_clamp (by omega)
  have e1 : nI f * 6 + nI c = nI (6 * f + c) := by
    rw [show nI f * 6 = nI (6 * f) by rw [Nat.mul_comm]; exact pk_mul f 6, nI_add]
  have e2 : (nI (6 * f + c)).toNatClampNeg = 6 * f + c := nI_clamp (by omega)
  unfold wpX_clause
  refine xs_f1 hf (br_f (by decide) (xs_v1 hP (br_f (by decide) (xs_v1 hQ (br_f (by decide) ⟨hfi, nm_r (e' := nI c) (by rw [hfc, ec]) ?_⟩)))))
  by_cases g : c < 6
  · have i1 : vp_in (nI (6 * f + c)) 12 := vp_in_nI (by omega) (by omega)
    exact br_t (nI_lt (b := 6) g (by decide)) (nm_r e1 ⟨i1, nm_r (by rw [e2]) ⟨i1, nm_r (by rw [e2]) ⟨hfi, nm_r (by rw [hfc, nI_1]) (hp g)⟩⟩⟩)
  · exact br_f (nI_nlt (b := 6) (by omega) (by omega)) (h6 (by omega))
end
section
variable {yn yh yd yg : Int32} {yv : Int64} {cl yp yq : Nat → Int32} {sd ak zz : Nat → Int64}
theorem ys_clause {post : Int32 → SY → Prop} {f c : Nat} {p q : Int32} (hf : f < 2) (ec : cl f = nI c) (hc : c ≤ 6)
    (hP : ¬ p &&& ((((1 : Int32) <<< (yn &&& 31)) - 1) ^^^ (-1)) = 0 → post (-1) (yn, yh, yd, yg, yv, cl, yp, yq, sd, ak, zz))
    (hQ : p &&& ((((1 : Int32) <<< (yn &&& 31)) - 1) ^^^ (-1)) = 0 → ¬ q &&& ((((1 : Int32) <<< (yn &&& 31)) - 1) ^^^ (-1)) = 0 → post (-1) (yn, yh, yd, yg, yv, cl, yp, yq, sd, ak, zz))
    (h6 : p &&& ((((1 : Int32) <<< (yn &&& 31)) - 1) ^^^ (-1)) = 0 → q &&& ((((1 : Int32) <<< (yn &&& 31)) - 1) ^^^ (-1)) = 0 → c = 6 → post (-2) (yn, yh, yd, yg, yv, cl, yp, yq, sd, ak, zz))
    (hp : p &&& ((((1 : Int32) <<< (yn &&& 31)) - 1) ^^^ (-1)) = 0 → q &&& ((((1 : Int32) <<< (yn &&& 31)) - 1) ^^^ (-1)) = 0 → c < 6 → post 0 (yn, yh, 0, yg, yv, upd cl f (nI (c + 1)), upd yp (6 * f + c) p, upd yq (6 * f + c) q, sd, ak, zz)) : wpY_clause post (yn, yh, yd, yg, yv, cl, yp, yq, sd, ak, zz) (nI f) p q := by
  have hfi : vp_in (nI f) 2 := vp_in_nI hf (by omega)
  have hfc : cl (nI f).toNatClampNeg = nI c := by rw [nI_clamp (by omega), ec]
  have e1 : 6 * nI f + cl (nI f).toNatClampNeg = nI (6 * f + c) := by
    rw [hfc, show 6 * nI f = nI (6 * f) from pk_mul 6 f, nI_add]
  have e2 : (6 * nI f + cl (nI f).toNatClampNeg).toNatClampNeg = 6 * f + c := by
    rw [e1]
    exact nI_clamp (by omega)
  have H : wY_clause_19 post (nI f) p q (((1 : Int32) <<< (yn &&& 31)) - 1) yn yh yd yg yv cl yp yq sd ak zz := by
    refine br_c (fun a => br_c (fun b => ⟨hfi, ?_⟩) (fun b => hQ a b)) hP
    by_cases g : c < 6
    · have i1 : vp_in (6 * nI f + cl (nI f).toNatClampNeg) 12 := by
        rw [e1]
        exact vp_in_nI (by omega) (by omega)
      exact br_t (by rw [hfc]; exact nI_lt (b := 6) g (by decide)) ⟨hfi, i1, nm_r (by rw [e2]) ⟨hfi, i1, nm_r (by rw [e2]) ⟨hfi, hfi, nm_r (by rw [hfc, nI_1, nI_clamp (by omega)]) (hp a b g)⟩⟩⟩
    · exact br_f (by rw [hfc]; exact nI_nlt (b := 6) (by omega) (by omega)) (h6 a b (by omega))
  have e : f = 0 ∨ f = 1 := by omega
  rcases e with rfl | rfl
  · exact nm_e (br_t rfl H)
  · exact nm_e (br_f (by decide) (br_t rfl H))
end
theorem rl_f (p : Int32) : (∃ f : Nat, f < 2 ∧ p = nI f) ∨ (¬ p = 0 ∧ ¬ p = 1) := by
  by_cases h0 : p = 0
  · exact Or.inl ⟨0, by decide, h0⟩
  · by_cases h1 : p = 1
    · exact Or.inl ⟨1, by decide, h1⟩
    · exact Or.inr ⟨h0, h1⟩
theorem rl_cu {cc : Nat → Int32} {c : Nat → Nat} {f d : Nat} (hc : ∀ f, f < 2 → c f ≤ 6 ∧ cc f = nI (c f)) (hd : d ≤ 6) : ∀ g, g < 2 → (if g = f then d else c g) ≤ 6 ∧ upd cc f (nI d) g = nI (if g = f then d else c g) := by
  intro g hg
  by_cases e : g = f
  · rw [if_pos e, e, pk_us]
    exact ⟨hd, rfl⟩
  · rw [if_neg e, pk_un e]
    exact hc g hg
theorem i_vc_clause {k : Nat} {u : SX} {v : SY} (I : i_Rel k u v) (hk : k + 4 ≤ 2049) (v1 : Int32) (v2 : Int32) (v3 : Int32) : wpX_clause (fun r u' => wpY_clause (fun r' v' => r' = r ∧ i_Rel (k + 4) u' v') v v1 v2 v3) u v1 v2 v3 := by
  have J := I
  obtain ⟨n, c, hw, st, xg, xt, yg, xr, yv, cc, ps, ng, ch, se, tb, sd, ak, zz, rfl, rfl, h1, h6, hc, hl⟩ := I
  rcases rl_f v1 with ⟨f, hf, rfl⟩ | ⟨g0, g1⟩
  · have hcf := hc f hf
    have s2 := sv_in h6 v2
    have s3 := sv_in h6 v3
    by_cases a : (v2.toUInt32 >>> ((nI n).toUInt32 &&& Int32.toUInt32 31)).toInt32 = 0
    · by_cases b : (v3.toUInt32 >>> ((nI n).toUInt32 &&& Int32.toUInt32 31)).toInt32 = 0
      · have a' := s2.mp a
        have b' := s3.mp b
        refine xs_clause hf a b hcf.2 hcf.1 (fun e => ?_) (fun e => ?_)
        · exact ys_clause hf hcf.2 hcf.1 (fun z => absurd a' z) (fun _ z => absurd b' z) (fun _ _ _ => ⟨rfl, J⟩) (fun _ _ z => absurd e (by omega))
        · refine ys_clause hf hcf.2 hcf.1 (fun z => absurd a' z) (fun _ z => absurd b' z) (fun _ _ z => absurd e (by omega)) (fun _ _ _ => ⟨rfl, ?_⟩)
          exact ⟨n, fun g => if g = f then c f + 1 else c g, hw, 0, 0, xt, yg, xr, yv, _, _, _, _, _, _, _, _, _, rfl, rfl, h1, h6, rl_cu hc (by omega), Or.inl ⟨rfl, rfl⟩⟩
      · have b' : ¬ v3 &&& ((((1 : Int32) <<< (nI n &&& 31)) - 1) ^^^ (-1)) = 0 := fun z => b (s3.mpr z)
        have a' := s2.mp a
        unfold wpX_clause
        refine xs_f1 hf (br_f (by decide) (xs_v1 a (br_f (by decide) (xs_v0 b (br_t rfl ?_)))))
        exact ys_clause hf hcf.2 hcf.1 (fun z => absurd a' z) (fun _ _ => ⟨rfl, J⟩) (fun _ z => absurd z b') (fun _ z => absurd z b')
    · have a' : ¬ v2 &&& ((((1 : Int32) <<< (nI n &&& 31)) - 1) ^^^ (-1)) = 0 := fun z => a (s2.mpr z)
      unfold wpX_clause
      refine xs_f1 hf (br_f (by decide) (xs_v0 a (br_t rfl ?_)))
      exact ys_clause hf hcf.2 hcf.1 (fun _ => ⟨rfl, J⟩) (fun z => absurd z a') (fun z => absurd z a') (fun z => absurd z a')
  · unfold wpX_clause
    refine xs_f0 g0 g1 (br_t rfl ?_)
    exact nm_e (br_f g0 (br_f g1 ⟨rfl, J⟩))
theorem i_vc_clear {k : Nat} {u : SX} {v : SY} (I : i_Rel k u v) (hk : k + 4 ≤ 2049) (v1 : Int32) : wpX_clear (fun r u' => wpY_clear (fun r' v' => r' = r ∧ i_Rel (k + 4) u' v') v v1) u v1 := by
  have J := I
  obtain ⟨n, c, hw, st, xg, xt, yg, xr, yv, cc, ps, ng, ch, se, tb, sd, ak, zz, rfl, rfl, h1, h6, hc, hl⟩ := I
  unfold wpX_clear
  rcases rl_f v1 with ⟨f, hf, rfl⟩ | ⟨g0, g1⟩
  · have hfi : vp_in (nI f) 2 := vp_in_nI hf (by omega)
    have hfc : (nI f).toNatClampNeg = f := nI_clamp (by omega)
    have eu : upd cc (nI f).toNatClampNeg 0 = upd cc f (nI 0) := by rw [hfc, nI_0]
    refine xs_f1 hf (br_f (by decide) ⟨hfi, nm_r eu ?_⟩)
    have R : i_Rel (k + 4) (nI n, nI (2 ^ n), hw, 0, 0, xr, xt, upd cc f (nI 0), ps, ng, ch, se, tb) (nI n, hw, 0, yg, yv, upd cc f (nI 0), ps, ng, sd, ak, zz) :=
      ⟨n, fun g => if g = f then 0 else c g, hw, 0, 0, xt, yg, xr, yv, _, _, _, _, _, _, _, _, _, rfl, rfl, h1, h6, rl_cu hc (by omega), Or.inl ⟨rfl, rfl⟩⟩
    have H : wY_clear_11 (fun r' v' => r' = 0 ∧ i_Rel (k + 4) (nI n, nI (2 ^ n), hw, 0, 0, xr, xt, upd cc f (nI 0), ps, ng, ch, se, tb) v') (nI f) (nI n) hw st yg yv cc ps ng sd ak zz := ⟨hfi, nm_r eu ⟨rfl, R⟩⟩
    have e : f = 0 ∨ f = 1 := by omega
    rcases e with rfl | rfl
    · exact br_t rfl H
    · exact br_f (by decide) (br_t rfl H)
  · exact xs_f0 g0 g1 (br_t rfl (br_f g0 (br_f g1 ⟨rfl, J⟩)))
