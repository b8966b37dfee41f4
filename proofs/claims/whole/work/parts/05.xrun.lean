/-! a round of the class: the message, its status, the polynomial, the end -/
theorem sm_e1 {gap : Int} {i : Nat} : sm_e 1 gap i = gap * 1073741824 := if_pos rfl
theorem sm_e20 {gap : Int} : sm_e 2 gap 0 = gap := rfl
theorem sm_e21 {gap : Int} : sm_e 2 gap 1 = 0 := rfl
theorem sm_e22 {gap : Int} : sm_e 2 gap 2 = - gap := rfl
theorem sm_e0 {how : Int32} {gap : Int} {i : Nat} (h1 : ¬ how = 1) (h2 : ¬ how = 2) : sm_e how gap i = 0 := by
  unfold sm_e
  rw [if_neg h1, if_neg h2]
theorem sm_lt3 {P : Nat → Prop} (h0 : P 0) (h1 : P 1) (h2 : P 2) : ∀ i, i < 3 → P i := by
  intro i hi
  have e : i = 0 ∨ i = 1 ∨ i = 2 := by omega
  rcases e with rfl | rfl | rfl
  · exact h0
  · exact h1
  · exact h2
section
variable {xv xa xm xs xg xt : Int32} {xr : Int64} {cc ps ng ch : Nat → Int32} {se tb : Nat → Int64}
theorem xs_send {post : SX → Prop} {h : Nat} {T : Nat → Nat → Int} {V : Int} (hh : h ≤ 16) (ht : xt = nI (2 * h)) (hv : xr = fd_c V) (hT : ∀ f, f < 2 → ∀ i, i < 2 * h → tb (32 * f + i) = fd_c (T f i))
    (hp : ∀ s : Nat → Int64, (∀ i, i < 3 → s i = fd_c (sm_v xm V (sm_G T h) i)) → post (xv, xa, xm, xs, xg, xr, xt, cc, ps, ng, ch, s, tb)) :
    wpX_sendMessage post (xv, xa, xm, xs, xg, xr, xt, cc, ps, ng, ch, se, tb) := by
  unfold wpX_sendMessage
  refine xs_honest hh ht hT 0 fd_0.symm (fun s1 e1 => ?_)
  refine xs_honest hh ht hT 1 fd_1.symm (fun s2 e2 => ?_)
  refine xs_honest hh ht hT 2 fd_2.symm (fun s3 e3 => ?_)
  have a0 : s3 0 = fd_c (sm_G T h 0) := by rw [e3, pk_uLn (by decide), e2, pk_uLn (by decide), e1, pk_uLs]
  have a1 : s3 1 = fd_c (sm_G T h 1) := by rw [e3, pk_uLn (by decide), e2, pk_uLs]
  have a2 : s3 2 = fd_c (sm_G T h 2) := by rw [e3, pk_uLs]
  rw [a0, a1]
  refine xs_plus ?_
  subst hv
  refine xs_minus ?_
  by_cases m1 : xm = 1
  · subst m1
    refine br_t rfl (xs_timesH (xs_plus (fun s4 e4 => ?_)))
    have b1 : s4 1 = fd_c (sm_G T h 1) := by rw [e4, pk_uLn (by decide), a1]
    rw [b1]
    refine xs_plus (fun s5 e5 => ?_)
    have b2 : s5 2 = fd_c (sm_G T h 2) := by rw [e5, pk_uLn (by decide), e4, pk_uLn (by decide), a2]
    rw [b2]
    refine xs_plus (fun s6 e6 => hp s6 (sm_lt3 ?_ ?_ ?_))
    · rw [e6, pk_uLn (by decide), e5, pk_uLn (by decide), e4, pk_uLs, sm_v, sm_e1]
    · rw [e6, pk_uLn (by decide), e5, pk_uLs, sm_v, sm_e1]
    · rw [e6, pk_uLs, sm_v, sm_e1]
  · refine br_f m1 ?_
    by_cases m2 : xm = 2
    · subst m2
      refine br_t rfl (xs_plus (fun s4 e4 => ?_))
      have b2 : s4 2 = fd_c (sm_G T h 2) := by rw [e4, pk_uLn (by decide), a2]
      rw [b2]
      refine xs_minus (fun s5 e5 => hp s5 (sm_lt3 ?_ ?_ ?_))
      · rw [e5, pk_uLn (by decide), e4, pk_uLs, sm_v, sm_e20]
      · rw [e5, pk_uLn (by decide), e4, pk_uLn (by decide), a1, sm_v, sm_e21, Int.add_zero]
      · rw [e5, pk_uLs, sm_v, sm_e22, Int.sub_eq_add_neg]
    · refine br_f m2 (hp s3 (sm_lt3 ?_ ?_ ?_))
      · rw [a0, sm_v, sm_e0 m1 m2, Int.add_zero]
      · rw [a1, sm_v, sm_e0 m1 m2, Int.add_zero]
      · rw [a2, sm_v, sm_e0 m1 m2, Int.add_zero]
theorem xs_begin {post : SX → Prop} {h : Nat} {T : Nat → Nat → Int} {V : Int} (hh : h ≤ 16) (ht : xt = nI (2 * h)) (hv : xr = fd_c V) (hT : ∀ f, f < 2 → ∀ i, i < 2 * h → tb (32 * f + i) = fd_c (T f i))
    (hp : ∀ s : Nat → Int64, (∀ i, i < 3 → s i = fd_c (sm_v xm V (sm_G T h) i)) → post (xv, xa, xm, sm_st xm V (sm_G T h), xg, xr, xt, cc, ps, ng, ch, s, tb)) :
    wpX_beginRound post (xv, xa, xm, xs, xg, xr, xt, cc, ps, ng, ch, se, tb) := by
  unfold wpX_beginRound
  refine xs_send hh ht hv hT (fun s hs => ?_)
  have H := hp s hs
  show wpX_plus _ (s 0) (s 1)
  rw [hs 0 (by decide), hs 1 (by decide)]
  refine xs_plus ?_
  subst hv
  by_cases c : fd_c (sm_v xm V (sm_G T h) 0 + sm_v xm V (sm_G T h) 1) = fd_c V
  · refine br_t c ?_
    rw [sm_st, if_pos c] at H
    exact H
  · refine br_f c ?_
    rw [sm_st, if_neg c] at H
    exact H
theorem xs_poly {post : Int64 → Prop} {S : Nat → Int} {w : Int64} (hs : ∀ i, i < 3 → se i = fd_c (S i)) (r : Int) (hw : w = fd_c r) (hp : post (fd_c (sm_N S r))) :
    wpX_sentPolynomialAt post (xv, xa, xm, xs, xg, xr, xt, cc, ps, ng, ch, se, tb) w := by
  subst hw
  unfold wpX_sentPolynomialAt
  show wpX_minus _ (se 1) (se 0)
  rw [hs 0 (by decide), hs 1 (by decide), hs 2 (by decide)]
  refine xs_minus ?_
  refine xs_minus ?_
  refine xs_minus ?_
  refine xs_minus1 ?_
  refine xs_times ?_
  refine xs_timesH ?_
  refine xs_times ?_
  refine xs_times ?_
  refine xs_plus ?_
  refine xs_plus ?_
  exact hp
theorem xs_end {post : SX → Prop} {A B V : Int} (hv : xr = fd_c V) (h0 : tb 0 = fd_c A) (h1 : tb 32 = fd_c B)
    (hp : post (xv, xa, xm, if fd_c V = fd_c (A * B) then 2 else 3, xg, xr, xt, cc, ps, ng, ch, se, tb)) :
    wpX_endRun post (xv, xa, xm, xs, xg, xr, xt, cc, ps, ng, ch, se, tb) := by
  unfold wpX_endRun
  show wpX_times _ (tb 0) (tb 32)
  rw [h0, h1]
  refine xs_times ?_
  subst hv
  by_cases c : fd_c V = fd_c (A * B)
  · rw [if_pos c] at hp
    exact br_t c hp
  · rw [if_neg c] at hp
    exact br_f c hp
end
