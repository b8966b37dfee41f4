/-! the class's own methods, each against the integers -/
theorem xs_minus {post : Int64 → Prop} {x y : Int} (h : post (fd_c (x - y))) : wpX_minus post (fd_c x) (fd_c y) := by
  refine ⟨by decide, ?_⟩
  rw [fd_minus]
  exact h
theorem xs_plus {post : Int64 → Prop} {x y : Int} (h : post (fd_c (x + y))) : wpX_plus post (fd_c x) (fd_c y) := by
  refine ⟨by decide, ?_⟩
  rw [fd_plus]
  exact h
theorem xs_times {post : Int64 → Prop} {x y : Int} (h : post (fd_c (x * y))) : wpX_times post (fd_c x) (fd_c y) := by
  refine ⟨by decide, ?_⟩
  rw [fd_times]
  exact h
theorem xs_timesH {post : Int64 → Prop} {x : Int} (h : post (fd_c (x * 1073741824))) : wpX_times post (fd_c x) 1073741824 := by
  rw [← fd_H]
  exact xs_times h
theorem xs_minus1 {post : Int64 → Prop} {x : Int} (h : post (fd_c (x - 1))) : wpX_minus post (fd_c x) 1 := by
  rw [← fd_1]
  exact xs_minus h
/-- the sums of one round: G t, the message by manner, the status -/
def sm_G (T : Nat → Nat → Int) (h : Nat) (t : Nat) : Int := ml_s (fun j => ml_f (T 0) t j * ml_f (T 1) t j) h
def sm_e (how : Int32) (gap : Int) (i : Nat) : Int := if how = 1 then gap * 1073741824 else if how = 2 then (if i = 0 then gap else if i = 1 then 0 else - gap) else 0
def sm_v (how : Int32) (V : Int) (G : Nat → Int) (i : Nat) : Int := G i + sm_e how (V - (G 0 + G 1)) i
def sm_st (how : Int32) (V : Int) (G : Nat → Int) : Int32 := if fd_c (sm_v how V G 0 + sm_v how V G 1) = fd_c V then 1 else 3
def sm_N (S : Nat → Int) (r : Int) : Int := S 0 + (S 1 - S 0) * r + ((S 2 - S 1) - (S 1 - S 0)) * (r * (r - 1) * 1073741824)
section
variable {xv xa xm xs xg xt : Int32} {xr : Int64} {cc ps ng ch : Nat → Int32} {se tb : Nat → Int64}
theorem xs_isTrue_l {post : Int32 → Prop} {x : Int32} {b c : Nat} (hb : b + c ≤ 12) (hp : post (nI (tr_v ps ng b x c))) : ∀ d k : Nat, k + d = c → tr_F ps ng b x k → wX_isTrue_18 post x (nI (b + c)) xv xa xm xs xg xr xt cc ps ng ch se tb (d + 1) (nI (b + k)) := by
  intro d
  induction d with
  | zero =>
    intro k hk hF
    have e : k = c := by omega
    subst e
    rw [tr_v1 hF] at hp
    exact br_t (nI_le (by omega) (by omega)) hp
  | succ d ih =>
    intro k hk hF
    have hi : vp_in (nI (b + k)) 12 := vp_in_nI (by omega) (by omega)
    have hc : (nI (b + k)).toNatClampNeg = b + k := nI_clamp (by omega)
    have next : ¬ tr_n ps ng b x k → ∀ y : Int32, y = nI (b + k) + 1 → wX_isTrue_18 post x (nI (b + c)) xv xa xm xs xg xr xt cc ps ng ch se tb (d + 1) y := by
      intro g y ey
      rw [ey, nI_1]
      exact ih (k + 1) (by omega) (tr_Fs hF g)
    refine br_f (nI_ge (by omega) (by omega)) ⟨hi, ?_⟩
    by_cases h1 : x &&& ps (nI (b + k)).toNatClampNeg = 0
    · refine br_t h1 ⟨hi, ?_⟩
      rw [hc] at h1
      by_cases h2 : (x ^^^ (-1)) &&& ng (nI (b + k)).toNatClampNeg = 0
      · refine br_t h2 ?_
        rw [hc] at h2
        rw [tr_no (k := k) (by omega) ⟨h1, h2⟩] at hp
        exact hp
      · refine br_f h2 (next fun g => h2 ?_)
        rw [hc]
        exact g.2
    · refine br_f h1 (next fun g => h1 ?_)
      rw [hc]
      exact g.1
theorem xs_isTrue {post : Int32 → Prop} {f c : Nat} (hf : f < 2) (hc : c ≤ 6) (ec : cc f = nI c) (x : Int32) (hp : post (nI (tr_v ps ng (6 * f) x c))) : wpX_isTrue post (xv, xa, xm, xs, xg, xr, xt, cc, ps, ng, ch, se, tb) (nI f) x := by
  have e1 : nI f * 6 = nI (6 * f) := by rw [Nat.mul_comm]; exact pk_mul f 6
  have e2 : nI (6 * f) + cc (nI f).toNatClampNeg = nI (6 * f + c) := by rw [nI_clamp (by omega), ec, nI_add]
  refine nm_r e1 ⟨vp_in_nI hf (by omega), nm_r e2 ⟨c + 1, ?_⟩⟩
  exact xs_isTrue_l (by omega) hp c 0 (by omega) (tr_F0 _ _ _ _)
theorem xs_fill_l {post : SX → Prop} {f c n : Nat} (hf : f < 2) (hn : n < 6) (hc : c ≤ 6) (ec : cc f = nI c) (tb0 : Nat → Int64)
    (hp : ∀ t : Nat → Int64, (∀ j, j < 2 ^ n → t (32 * f + j) = fd_c (tr_v ps ng (6 * f) (nI j) c)) → (∀ i, (i < 32 * f ∨ 32 * f + 32 ≤ i) → t i = tb0 i) → post (xv, nI (2 ^ n), xm, xs, xg, xr, xt, cc, ps, ng, ch, se, t)) :
    ∀ d x : Nat, x + d = 2 ^ n → ∀ t : Nat → Int64, (∀ j, j < x → t (32 * f + j) = fd_c (tr_v ps ng (6 * f) (nI j) c)) → (∀ i, (i < 32 * f ∨ 32 * f + 32 ≤ i) → t i = tb0 i) → wX_fillTable_7 post (nI f) (nI (32 * f)) xv (nI (2 ^ n)) xm xs xg xr xt (d + 1) (nI x) cc ps ng ch se t := by
  have h32 := sv_2 n hn
  intro d
  induction d with
  | zero =>
    intro x hx t h1 h2
    have e : x = 2 ^ n := by omega
    subst e
    exact br_t (nI_le (by omega) (by omega)) (hp t h1 h2)
  | succ d ih =>
    intro x hx t h1 h2
    have ei : nI (32 * f) + nI x = nI (32 * f + x) := nI_add _ _
    have hi : vp_in (nI (32 * f) + nI x) 64 := by rw [ei]; exact vp_in_nI (by omega) (by omega)
    have hcl : (nI (32 * f) + nI x).toNatClampNeg = 32 * f + x := by rw [ei]; exact nI_clamp (by omega)
    have next : ∀ w : Int64, w = fd_c (tr_v ps ng (6 * f) (nI x) c) → ∀ t' : Nat → Int64, t' = vp_updL t (nI (32 * f) + nI x).toNatClampNeg w → ∀ y : Int32, y = nI x + 1 → wX_fillTable_7 post (nI f) (nI (32 * f)) xv (nI (2 ^ n)) xm xs xg xr xt (d + 1) y cc ps ng ch se t' := by
      intro w ew t' et y ey
      rw [ey, nI_1, et, hcl]
      refine ih (x + 1) (by omega) _ ?_ ?_
      · intro j hj
        by_cases e : j = x
        · rw [e, pk_uLs, ew]
        · rw [pk_uLn (by omega)]
          exact h1 j (by omega)
      · intro i hi2
        rw [pk_uLn (by omega)]
        exact h2 i hi2
    refine br_f (nI_ge (by omega) (by omega)) (xs_isTrue hf hc ec (nI x) ?_)
    rcases tr_vr ps ng (6 * f) (nI x) c with z | z
    · rw [z]
      exact br_t rfl ⟨hi, next 0 (by rw [z]; exact fd_0.symm)⟩
    · rw [z]
      exact br_f (by decide) ⟨hi, next 1 (by rw [z]; exact fd_1.symm)⟩
theorem xs_fill {post : SX → Prop} {f c n : Nat} (hf : f < 2) (hn : n < 6) (hc : c ≤ 6) (ec : cc f = nI c)
    (hp : ∀ t : Nat → Int64, (∀ j, j < 2 ^ n → t (32 * f + j) = fd_c (tr_v ps ng (6 * f) (nI j) c)) → (∀ i, (i < 32 * f ∨ 32 * f + 32 ≤ i) → t i = tb i) → post (xv, nI (2 ^ n), xm, xs, xg, xr, xt, cc, ps, ng, ch, se, t)) :
    wpX_fillTable post (xv, nI (2 ^ n), xm, xs, xg, xr, xt, cc, ps, ng, ch, se, tb) (nI f) := by
  have e1 : nI f * 32 = nI (32 * f) := by rw [Nat.mul_comm]; exact pk_mul f 32
  refine nm_r e1 ⟨2 ^ n + 1, ?_⟩
  exact xs_fill_l hf hn hc ec tb hp (2 ^ n) 0 (by omega) tb (fun j h => absurd h (by omega)) (fun _ _ => rfl)
theorem xs_bound {post : Int64 → Prop} {f j : Nat} {T : Nat → Int} (hf : f < 2) (hj : j < 16) (h0 : tb (32 * f + 2 * j) = fd_c (T (2 * j))) (h1 : tb (32 * f + (2 * j + 1)) = fd_c (T (2 * j + 1))) (z : Int) (hp : post (fd_c (ml_f T z j))) : wpX_boundEntry post (xv, xa, xm, xs, xg, xr, xt, cc, ps, ng, ch, se, tb) (nI f) (nI j) (fd_c z) := by
  have e1 : nI f * 32 + 2 * nI j = nI (32 * f + 2 * j) := by
    rw [show nI f * 32 = nI (32 * f) by rw [Nat.mul_comm]; exact pk_mul f 32, show 2 * nI j = nI (2 * j) from pk_mul 2 j, nI_add]
  have c0 : (nI (32 * f + 2 * j)).toNatClampNeg = 32 * f + 2 * j := nI_clamp (by omega)
  have c1 : (nI (32 * f + 2 * j) + 1).toNatClampNeg = 32 * f + (2 * j + 1) := by
    rw [nI_1]
    exact nI_clamp (by omega)
  have i0 : vp_in (nI (32 * f + 2 * j)) 64 := vp_in_nI (by omega) (by omega)
  have i1 : vp_in (nI (32 * f + 2 * j) + 1) 64 := by
    rw [nI_1]
    exact vp_in_nI (by omega) (by omega)
  refine nm_r e1 ⟨i1, i0, ?_⟩
  rw [c0, c1, h0, h1]
  exact xs_minus (xs_times ⟨i0, xs_plus hp⟩)
theorem xs_half {h : Nat} (hh : h ≤ 16) : nI (2 * h) / 2 = nI h := by
  have e := pk_div (a := 2 * h) (d := 2) (by omega) (by decide) (by decide)
  rw [show 2 * h / 2 = h by omega] at e
  exact e
theorem xs_honest_l {post : Int64 → Prop} {h : Nat} {T : Nat → Nat → Int} (hh : h ≤ 16) (hT : ∀ f, f < 2 → ∀ i, i < 2 * h → tb (32 * f + i) = fd_c (T f i)) (z : Int) (hp : post (fd_c (ml_s (fun j => ml_f (T 0) z j * ml_f (T 1) z j) h))) :
    ∀ d j : Nat, j + d = h → wX_honestAt_5 post (fd_c z) xv xa xm xs xg xr (nI (2 * h)) cc ps ng ch se tb (d + 1) (fd_c (ml_s (fun j => ml_f (T 0) z j * ml_f (T 1) z j) j)) (nI j) := by
  intro d
  induction d with
  | zero =>
    intro j hj
    have e : j = h := by omega
    subst e
    exact ⟨by decide, br_t (by rw [xs_half hh]; exact nI_le (by omega) (by omega)) hp⟩
  | succ d ih =>
    intro j hj
    refine ⟨by decide, br_f (by rw [xs_half hh]; exact nI_ge (by omega) (by omega)) ?_⟩
    refine xs_bound (f := 0) (T := T 0) (by omega) (by omega) (hT 0 (by omega) (2 * j) (by omega)) (hT 0 (by omega) (2 * j + 1) (by omega)) z ?_
    refine xs_bound (f := 1) (T := T 1) (by omega) (by omega) (hT 1 (by omega) (2 * j) (by omega)) (hT 1 (by omega) (2 * j + 1) (by omega)) z ?_
    refine xs_times (xs_plus (nm_r (nI_1 j) ?_))
    exact ih (j + 1) (by omega)
theorem xs_honest {post : Int64 → Prop} {h : Nat} {T : Nat → Nat → Int} {w : Int64} (hh : h ≤ 16) (ht : xt = nI (2 * h)) (hT : ∀ f, f < 2 → ∀ i, i < 2 * h → tb (32 * f + i) = fd_c (T f i)) (t : Nat) (hw : w = fd_c t) (hp : post (fd_c (sm_G T h t))) : wpX_honestAt post (xv, xa, xm, xs, xg, xr, xt, cc, ps, ng, ch, se, tb) w := by
  subst ht hw
  refine ⟨h + 1, ?_⟩
  have H := xs_honest_l (xv := xv) (xa := xa) (xm := xm) (xs := xs) (xg := xg) (xr := xr) (cc := cc) (ps := ps) (ng := ng) (ch := ch) (se := se) hh hT t hp h 0 (by omega)
  rw [show ml_s (fun j => ml_f (T 0) t j * ml_f (T 1) t j) 0 = 0 from rfl, fd_0, nI_0] at H
  exact H
theorem xs_bind_l {post : SX → Prop} {f h : Nat} {T : Nat → Int} (hf : f < 2) (hh : h ≤ 16) (hT : ∀ i, i < 2 * h → tb (32 * f + i) = fd_c (T i)) (z : Int)
    (hp : ∀ t : Nat → Int64, (∀ j, j < h → t (32 * f + j) = fd_c (ml_f T z j)) → (∀ i, (i < 32 * f ∨ 32 * f + 32 ≤ i) → t i = tb i) → post (xv, xa, xm, xs, xg, xr, nI (2 * h), cc, ps, ng, ch, se, t)) :
    ∀ d j : Nat, j + d = h → ∀ t : Nat → Int64, (∀ i, i < j → t (32 * f + i) = fd_c (ml_f T z i)) → (∀ i, j ≤ i → t (32 * f + i) = tb (32 * f + i)) → (∀ i, (i < 32 * f ∨ 32 * f + 32 ≤ i) → t i = tb i) → wX_bindVariable_9 post (nI f) (fd_c z) (nI (32 * f)) xv xa xm xs xg xr (nI (2 * h)) (d + 1) (nI j) cc ps ng ch se t := by
  intro d
  induction d with
  | zero =>
    intro j hj t h1 _ h3
    have e : j = h := by omega
    subst e
    exact ⟨by decide, br_t (by rw [xs_half hh]; exact nI_le (by omega) (by omega)) (hp t h1 h3)⟩
  | succ d ih =>
    intro j hj t h1 h2 h3
    have ei : nI (32 * f) + nI j = nI (32 * f + j) := nI_add _ _
    have hi : vp_in (nI (32 * f) + nI j) 64 := by rw [ei]; exact vp_in_nI (by omega) (by omega)
    have hcl : (nI (32 * f) + nI j).toNatClampNeg = 32 * f + j := by rw [ei]; exact nI_clamp (by omega)
    refine ⟨by decide, br_f (by rw [xs_half hh]; exact nI_ge (by omega) (by omega)) ?_⟩
    refine xs_bound (T := T) hf (by omega) ((h2 (2 * j) (by omega)).trans (hT _ (by omega))) ((h2 (2 * j + 1) (by omega)).trans (hT _ (by omega))) z ⟨hi, ?_⟩
    intro t' et y ey
    rw [ey, nI_1, et, hcl]
    refine ih (j + 1) (by omega) _ ?_ ?_ ?_
    · intro i hij
      by_cases e : i = j
      · rw [e, pk_uLs]
      · rw [pk_uLn (by omega)]
        exact h1 i (by omega)
    · intro i hij
      rw [pk_uLn (by omega)]
      exact h2 i (by omega)
    · intro i hi2
      rw [pk_uLn (by omega)]
      exact h3 i hi2
theorem xs_bind {post : SX → Prop} {f h : Nat} {T : Nat → Int} {w : Int64} (hf : f < 2) (hh : h ≤ 16) (ht : xt = nI (2 * h)) (hT : ∀ i, i < 2 * h → tb (32 * f + i) = fd_c (T i)) (z : Int) (hw : w = fd_c z)
    (hp : ∀ t : Nat → Int64, (∀ j, j < h → t (32 * f + j) = fd_c (ml_f T z j)) → (∀ i, (i < 32 * f ∨ 32 * f + 32 ≤ i) → t i = tb i) → post (xv, xa, xm, xs, xg, xr, xt, cc, ps, ng, ch, se, t)) :
    wpX_bindVariable post (xv, xa, xm, xs, xg, xr, xt, cc, ps, ng, ch, se, tb) (nI f) w := by
  subst ht hw
  have e1 : nI f * 32 = nI (32 * f) := by rw [Nat.mul_comm]; exact pk_mul f 32
  refine nm_r e1 ⟨h + 1, ?_⟩
  exact xs_bind_l hf hh hT z hp h 0 (by omega) tb (fun i h => absurd h (by omega)) (fun _ _ => rfl) (fun _ _ => rfl)
end
