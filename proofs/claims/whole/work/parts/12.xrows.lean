/-! part 12: the component's rows: join, turn, scan, sort -/
variable {tc sc ob vc nt lc : Int32} {ic iz ki op so bb vC vS lC lS lP lK lT mC mS : Nat → Int32} {K : Nat → Nat} {s : List vl_rw} {post : SX → Prop}
theorem vl_xS_top {C Z C' : Nat → Int32} {r : vl_rw} {g : Nat → Int32} (h : vl_xS C Z (r :: s)) (hc : ∀ p, p < r.1 → C' (8 * s.length + p) = g p) (hC : ∀ j, j < 8 * s.length → C' j = C j) : vl_xS C' Z ((r.1, g) :: s) :=
  ⟨⟨h.1.1, h.1.2.1, hc⟩, vl_xS_congr h.2 hC (fun _ _ => rfl)⟩
theorem vx_join {q r : vl_rw} (hs : vl_xS vC vS (q :: r :: s)) (hl : s.length + 2 ≤ 6)
    (hp : ∀ C Z, vl_xS C Z ((if r.1 + q.1 < 8 then r.1 + q.1 else 8, fun p => if p < r.1 then r.2 p else q.2 (p - r.1)) :: s) → post (tc, sc, ob, nI (s.length + 1), nt, lc, ic, iz, ki, op, so, bb, C, Z, lC, lS, lP, lK, lT, mC, mS)) : wpX_runJoin post (tc, sc, ob, nI (s.length + 2), nt, lc, ic, iz, ki, op, so, bb, vC, vS, lC, lS, lP, lK, lT, mC, mS) := by
  obtain ⟨⟨f1, f2, f3⟩, ⟨g1, g2, g3⟩, g4⟩ := hs
  have f1 : vS (s.length + 1) = nI q.1 := f1
  have f3 : ∀ p, p < q.1 → vC (8 * (s.length + 1) + p) = q.2 p := f3
  unfold wpX_runJoin
  simp (disch := omega) only [nI_pred, nI_clamp, vl_in, forall_eq, true_and, g1, f1, vl_m8]
  obtain ⟨c, hc⟩ : ∃ c, c = if r.1 + q.1 < 8 then q.1 else 8 - r.1 := ⟨_, rfl⟩
  have hc1 : c ≤ q.1 := by rw [hc]; split <;> omega
  have hc2 : r.1 + c = if r.1 + q.1 < 8 then r.1 + q.1 else 8 := by rw [hc]; split <;> omega
  have hc3 : r.1 + c ≤ 8 := by rw [hc2]; split <;> omega
  have hc4 : c < q.1 → 8 ≤ r.1 + c := by rw [hc]; split <;> omega
  rw [← hc2] at hp
  refine ⟨c + 1, vl_copy (W := fun k p b => wX_runJoin_52 post (nI s.length) (nI (8 * s.length)) (nI (8 * (s.length + 1))) (nI q.1) tc sc ob (nI (s.length + 1)) nt lc k (nI (r.1 + p)) (nI p) ic iz ki op so bb (b) vS lC lS lP lK lT mC mS) (src := q.2) (a := vC) (o := 8 * s.length + r.1) (c := c) ?_ ?_⟩
  · intro k b h1 h2
    have fin : post (tc, sc, ob, nI (s.length + 1), nt, lc, ic, iz, ki, op, so, bb, b, upd vS s.length (nI (r.1 + c)), lC, lS, lP, lK, lT, mC, mS) := by
      refine hp _ _ (vl_xS_push g4 hc3 pk_us ?_ (fun j hj => h2 j (by omega)) (fun j hj => pk_un (by omega)))
      intro p hpp
      have hpp : p < r.1 + c := hpp
      show b (8 * s.length + p) = if p < r.1 then r.2 p else q.2 (p - r.1)
      by_cases e : p < r.1
      · rw [if_pos e, h2 _ (by omega)]; exact g3 p e
      · rw [if_neg e]
        have := h1 (p - r.1) (by omega)
        rw [show 8 * s.length + r.1 + (p - r.1) = 8 * s.length + p by omega] at this
        exact this
    by_cases e : q.1 ≤ c
    · refine br_t (nI_le e (by omega)) ?_
      simp (disch := omega) only [nI_clamp, vl_in, forall_eq, true_and]
      exact fin
    · refine br_f (nI_ge (by omega) (by omega)) (br_t (nI_le (a := 8) (hc4 (by omega)) (by omega)) ?_)
      simp (disch := omega) only [nI_clamp, vl_in, forall_eq, true_and]
      exact fin
  · intro k p b hpc h1 h2 h3
    refine br_f (nI_ge (by omega) (by omega)) (br_f (nI_ge (b := 8) (by omega) (by decide)) ?_)
    simp (disch := omega) only [nI_add, nI_clamp, vl_in, forall_eq, true_and, nI_1]
    rw [h2 _ (by omega), f3 p (by omega), ← Nat.add_assoc]
    exact h3
theorem vx_swap {a b : Nat} (ha : a < 48) (hb : b < 48) (hp : post (tc, sc, ob, vc, nt, lc, ic, iz, ki, op, so, bb, upd (upd vC a (vC b)) b (vC a), vS, lC, lS, lP, lK, lT, mC, mS)) : wpX_swapCells post (tc, sc, ob, vc, nt, lc, ic, iz, ki, op, so, bb, vC, vS, lC, lS, lP, lK, lT, mC, mS) (nI a) (nI b) := by
  unfold wpX_swapCells
  simp (disch := omega) only [nI_clamp, vl_in, forall_eq, true_and]
  exact hp
theorem vx_turn {r : vl_rw} (hs : vl_xS vC vS (r :: s)) (hl : s.length + 1 ≤ 6)
    (hp : ∀ C Z, vl_xS C Z ((r.1, fun p => r.2 (r.1 - 1 - p)) :: s) → post (tc, sc, ob, nI (s.length + 1), nt, lc, ic, iz, ki, op, so, bb, C, Z, lC, lS, lP, lK, lT, mC, mS)) : wpX_turnTop post (tc, sc, ob, nI (s.length + 1), nt, lc, ic, iz, ki, op, so, bb, vC, vS, lC, lS, lP, lK, lT, mC, mS) := by
  have hs0 := hs
  obtain ⟨⟨g1, g2, g3⟩, g4⟩ := hs
  unfold wpX_turnTop
  simp (disch := omega) only [nI_pred, nI_clamp, vl_in, forall_eq, true_and, g1, vl_m8, nI_add, vl_d2]
  refine ⟨by decide, r.1 / 2 + 1, vl_turn (W := fun k p b => wX_turnTop_36 post (nI (8 * s.length)) (nI (8 * s.length + r.1) - 1) (nI (r.1 / 2)) k (nI p) tc sc ob (nI (s.length + 1)) nt lc ic iz ki op so bb (b) vS lC lS lP lK lT mC mS) (a := vC) (o := 8 * s.length) (m := r.1) ?_ ?_⟩
  · intro k b h1 h2
    refine br_t (nI_le (Nat.le_refl _) (by omega)) ?_
    refine hp _ _ (vl_xS_top hs0 ?_ (fun j hj => h2 j (Or.inl hj)))
    intro p hpp
    rw [h1 p hpp]
    exact g3 _ (by omega)
  · intro k i b hi h3
    refine br_f (nI_ge hi (by omega)) ?_
    have e : nI (8 * s.length + r.1) - 1 - nI i = nI (8 * s.length + (r.1 - 1 - i)) := by
      rw [vl_sub1 _ (by omega), pk_sub (by omega)]
      exact congrArg nI (by omega)
    rw [e, nI_add]
    refine vx_swap (by omega) (by omega) ?_
    exact nm_r (nI_1 i) h3
theorem vx_scan {r : vl_rw} (hs : vl_xS vC vS (r :: s)) (hl : s.length + 1 ≤ 6)
    (hp : ∀ C Z, vl_xS C Z ((r.1, fun p => vl_sm r.2 (p + 1)) :: s) → post (tc, sc, ob, nI (s.length + 1), nt, lc, ic, iz, ki, op, so, bb, C, Z, lC, lS, lP, lK, lT, mC, mS)) : wpX_scanTop post (tc, sc, ob, nI (s.length + 1), nt, lc, ic, iz, ki, op, so, bb, vC, vS, lC, lS, lP, lK, lT, mC, mS) := by
  have hs0 := hs
  obtain ⟨⟨g1, g2, g3⟩, g4⟩ := hs
  unfold wpX_scanTop
  simp (disch := omega) only [nI_pred, nI_clamp, vl_in, forall_eq, true_and, g1, vl_m8]
  refine ⟨r.1 + 1, vl_scan (W := fun k p b => wX_scanTop_22 post (nI (8 * s.length)) (nI r.1) tc sc ob (nI (s.length + 1)) nt lc k (nI p) ic iz ki op so bb (b) vS lC lS lP lK lT mC mS) (a := vC) (o := 8 * s.length) (m := r.1) ?_ ?_⟩
  · intro k i b hi hi2 h1 h2
    refine br_t (nI_le hi (by omega)) ?_
    refine hp _ _ (vl_xS_top hs0 ?_ (fun j hj => h2 j (Or.inl hj)))
    intro p hpp
    rw [h1 p hpp]
    exact vl_sm_congr (fun q hq => g3 q (by omega))
  · intro k i b hi0 hi h3
    refine br_f (nI_ge hi (by omega)) ?_
    simp (disch := omega) only [nI_add, nI_clamp, vl_in, forall_eq, true_and, nI_1, vl_sub1]
    rw [show 8 * s.length + i - 1 = 8 * s.length + (i - 1) by omega]
    exact h3
theorem vx_sort {r : vl_rw} (hs : vl_xS vC vS (r :: s)) (hl : s.length + 1 ≤ 6)
    (hp : ∀ C Z, vl_xS C Z ((r.1, vl_so r.1 r.2) :: s) → post (tc, sc, ob, nI (s.length + 1), nt, lc, ic, iz, ki, op, so, bb, C, Z, lC, lS, lP, lK, lT, mC, mS)) : wpX_sortTop post (tc, sc, ob, nI (s.length + 1), nt, lc, ic, iz, ki, op, so, bb, vC, vS, lC, lS, lP, lK, lT, mC, mS) := by
  have hs0 := hs
  obtain ⟨⟨g1, g2, g3⟩, g4⟩ := hs
  unfold wpX_sortTop
  simp (disch := omega) only [nI_pred, nI_clamp, vl_in, forall_eq, true_and, g1, vl_m8, nI_add, nI_1]
  refine ⟨r.1 + 1, vl_ins (Wo := fun k c b => wX_sortTop_26 post (nI (8 * s.length)) (nI (8 * s.length + r.1)) k (nI (8 * s.length + c)) tc sc ob (nI (s.length + 1)) nt lc ic iz ki op so bb (b) vS lC lS lP lK lT mC mS)
    (Wi := fun k c q d b => wX_sortTop_36 post (wX_sortTop_26 post (nI (8 * s.length)) (nI (8 * s.length + r.1)) k) (nI (8 * s.length)) (nI (8 * s.length + r.1)) (nI (8 * s.length + c)) q (nI (8 * s.length + d)) tc sc ob (nI (s.length + 1)) nt lc ic iz ki op so bb (b) vS lC lS lP lK lT mC mS)
    (a := vC) (o := 8 * s.length) (m := r.1) ?_ ?_ ?_ ?_⟩
  · intro k c b hc hc2 h1 h2
    refine br_t (nI_le (by omega) (by omega)) ?_
    refine hp _ _ (vl_xS_top hs0 ?_ (fun j hj => h2 j (Or.inl hj)))
    intro p hpp
    refine vl_so_eq (m := r.1) (f := r.2) (g := fun p => b (8 * s.length + p)) ⟨h1.1, ?_⟩ p hpp
    intro v
    rw [h1.2 v]
    exact vl_ct_congr g3
  · intro k c b hc0 hc h3
    exact br_f (nI_ge (by omega) (by omega)) h3
  · intro k c q d b hc0 hc hd hx h3
    by_cases hd0 : d = 0
    · subst hd0
      exact br_t (nI_le (by omega) (by omega)) (nm_r (nI_1 _) h3)
    · rcases hx with hx | ⟨-, hx⟩
      · exact absurd hx hd0
      · refine br_f (nI_ge (by omega) (by omega)) ?_
        rw [vl_sub1 _ (by omega), nI_clamp (by omega), nI_clamp (by omega), show 8 * s.length + d - 1 = 8 * s.length + (d - 1) by omega]
        exact ⟨vp_in_nI (by omega) (by decide), vp_in_nI (by omega) (by decide), br_t hx (nm_r (nI_1 _) h3)⟩
  · intro k c q d b hc0 hc hd hx h3
    refine br_f (nI_ge (by omega) (by omega)) ?_
    rw [show 8 * s.length + (d + 1) = (8 * s.length + d) + 1 from rfl, nI_pred, nI_clamp (by omega), nI_clamp (by omega)]
    refine ⟨vp_in_nI (by omega) (by decide), vp_in_nI (by omega) (by decide), br_f hx ?_⟩
    refine vx_swap (by omega) (by omega) ?_
    exact nm_r (pk_m1 _) h3
