/-! part 11: the component's tokens over the stack -/
variable {tc sc ob vc nt lc : Int32} {ic iz ki op so bb vC vS lC lS lP lK lT mC mS : Nat → Int32} {K : Nat → Nat} {s : List vl_rw} {post : SX → Prop}
theorem vl_cl_le {j : Nat} (h : j ≤ 8) : vl_cl (nI j) = j := by
  have h1 : ¬ (8 : Int32) < nI j := nI_nlt (a := 8) (b := j) h (by decide)
  unfold vl_cl
  rw [if_neg (nI_pos (by omega)), if_neg h1, nI_clamp (by omega)]
theorem vl_cl_gt {j : Nat} (h : 8 < j) (hj : j < 2 ^ 31) : vl_cl (nI j) = 8 := by
  have h1 : (8 : Int32) < nI j := nI_lt (a := 8) h hj
  unfold vl_cl
  rw [if_neg (nI_pos hj), if_pos h1]
theorem vx_comb {post : Int32 → Prop} {k : Nat} {n m : Int32} (h3 : 3 ≤ k) (h9 : k < 9) (hp : post (vl_cm k n m)) : wpX_combine post (tc, sc, ob, vc, nt, lc, ic, iz, ki, op, so, bb, vC, vS, lC, lS, lP, lK, lT, mC, mS) (nI k) n m := by
  have c : k = 3 ∨ k = 4 ∨ k = 5 ∨ k = 6 ∨ k = 7 ∨ k = 8 := by omega
  unfold wpX_combine
  rcases c with rfl | rfl | rfl | rfl | rfl | rfl
  · exact br_f (by decide) (br_f (by decide) (br_t (by decide) hp))
  · exact br_f (by decide) (br_f (by decide) (br_f (by decide) (br_t (by decide) hp)))
  · exact br_f (by decide) (br_f (by decide) (br_f (by decide) (br_f (by decide) (br_t (by decide) hp))))
  · have e : vl_cm 6 n m = if m = 0 then 0 else n / m := rfl
    rw [e] at hp
    refine br_f (by decide) (br_f (by decide) (br_f (by decide) (br_f (by decide) (br_f (by decide) (br_t (by decide) (br_c ?_ ?_))))))
    · intro z; rw [if_pos z] at hp; exact hp
    · intro z; rw [if_neg z] at hp; exact ⟨z, hp⟩
  · have e : vl_cm 7 n m = if n < m then 1 else 0 := rfl
    rw [e] at hp
    refine br_f (by decide) (br_f (by decide) (br_f (by decide) (br_f (by decide) (br_f (by decide) (br_f (by decide) (br_t (by decide) (br_c ?_ ?_)))))))
    · intro z; rw [if_neg (Int32.not_lt.mpr z)] at hp; exact hp
    · intro z; rw [if_pos (Int32.not_le.mp z)] at hp; exact hp
  · have e : vl_cm 8 n m = if n = m then 1 else 0 := rfl
    rw [e] at hp
    refine br_f (by decide) (br_t (by decide) (br_c ?_ ?_))
    · intro z; rw [if_pos z] at hp; exact hp
    · intro z; rw [if_neg z] at hp; exact hp
theorem vx_pair {k : Nat} (h3 : 3 ≤ k) (h9 : k < 9) {m n : vl_rw} (hs : vl_xS vC vS (m :: n :: s)) (hm : m.1 = 1) (hn : n.1 = 1) (hl : s.length + 2 ≤ 6)
    (hp : ∀ C Z, vl_xS C Z ((1, fun _ => vl_cm k (n.2 0) (m.2 0)) :: s) → post (tc, sc, ob, nI (s.length + 1), nt, lc, ic, iz, ki, op, so, bb, C, Z, lC, lS, lP, lK, lT, mC, mS)) : wpX_runPair post (tc, sc, ob, nI (s.length + 2), nt, lc, ic, iz, ki, op, so, bb, vC, vS, lC, lS, lP, lK, lT, mC, mS) (nI k) := by
  have e1 : vC (8 * (s.length + 1)) = m.2 0 := vl_xS_0 hs hm
  have e2 : vC (8 * s.length) = n.2 0 := vl_xS_0 hs.2 hn
  unfold wpX_runPair
  refine vx_pop (h := s.length + 1) (by omega) ?_
  refine vx_pop (h := s.length) (by omega) ?_
  refine vx_comb h3 h9 ?_
  rw [e1, e2]
  refine vx_push (by omega) ?_
  exact hp _ _ (vl_xS_num hs.2.2)
theorem vx_pick {k m n : vl_rw} (hs : vl_xS vC vS (k :: m :: n :: s)) (hk : k.1 = 1) (hm : m.1 = 1) (hn : n.1 = 1) (hl : s.length + 3 ≤ 6)
    (hp : ∀ C Z, vl_xS C Z ((1, fun _ => if n.2 0 = 0 then k.2 0 else m.2 0) :: s) → post (tc, sc, ob, nI (s.length + 1), nt, lc, ic, iz, ki, op, so, bb, C, Z, lC, lS, lP, lK, lT, mC, mS)) : wpX_runPick post (tc, sc, ob, nI (s.length + 3), nt, lc, ic, iz, ki, op, so, bb, vC, vS, lC, lS, lP, lK, lT, mC, mS) := by
  have e0 : vC (8 * (s.length + 2)) = k.2 0 := vl_xS_0 hs hk
  have e1 : vC (8 * (s.length + 1)) = m.2 0 := vl_xS_0 hs.2 hm
  have e2 : vC (8 * s.length) = n.2 0 := vl_xS_0 hs.2.2 hn
  unfold wpX_runPick
  refine vx_pop (h := s.length + 2) (by omega) ?_
  refine vx_pop (h := s.length + 1) (by omega) ?_
  refine vx_pop (h := s.length) (by omega) ?_
  rw [e0, e1, e2]
  refine br_c ?_ ?_
  · intro z
    refine vx_push (by omega) ?_
    have e : (if n.2 0 = 0 then k.2 0 else m.2 0) = k.2 0 := if_pos z
    rw [e] at hp
    exact hp _ _ (vl_xS_num hs.2.2.2)
  · intro z
    refine vx_push (by omega) ?_
    have e : (if n.2 0 = 0 then k.2 0 else m.2 0) = m.2 0 := if_neg z
    rw [e] at hp
    exact hp _ _ (vl_xS_num hs.2.2.2)
theorem vx_meas {k : Nat} (hk : k = 10 ∨ k = 11 ∨ k = 12) {r : vl_rw} (hs : vl_xS vC vS (r :: s)) (hl : s.length + 1 ≤ 6)
    (hp : ∀ C Z, vl_xS C Z ((1, fun _ => if k = 10 then nI r.1 else if k = 11 then vl_sm r.2 r.1 else vl_mx r.2 r.1) :: s) → post (tc, sc, ob, nI (s.length + 1), nt, lc, ic, iz, ki, op, so, bb, C, Z, lC, lS, lP, lK, lT, mC, mS)) : wpX_runMeasure post (tc, sc, ob, nI (s.length + 1), nt, lc, ic, iz, ki, op, so, bb, vC, vS, lC, lS, lP, lK, lT, mC, mS) (nI k) := by
  obtain ⟨⟨g1, g2, g3⟩, g4⟩ := hs
  unfold wpX_runMeasure
  simp (disch := omega) only [nI_pred, vl_m8, nI_clamp, vl_in, forall_eq, true_and, g1]
  rcases hk with rfl | rfl | rfl
  · refine br_f (by decide) (br_f (by decide) ?_)
    refine vx_push (by omega) ?_
    exact hp _ _ (vl_xS_num g4)
  · refine br_t (by decide) ?_
    refine vx_sumOf (by omega) g3 ?_
    refine vx_push (by omega) ?_
    exact hp _ _ (vl_xS_num g4)
  · refine br_f (by decide) (br_t (by decide) ?_)
    refine vx_greatestOf (by omega) (by omega) g3 ?_
    refine vx_push (by omega) ?_
    exact hp _ _ (vl_xS_num g4)
theorem vx_at {i r : vl_rw} (hs : vl_xS vC vS (i :: r :: s)) (hi : i.1 = 1) (hl : s.length + 2 ≤ 6)
    (hp : ∀ C Z, vl_xS C Z ((1, fun _ => vl_at (i.2 0) r) :: s) → post (tc, sc, ob, nI (s.length + 1), nt, lc, ic, iz, ki, op, so, bb, C, Z, lC, lS, lP, lK, lT, mC, mS)) : wpX_runAt post (tc, sc, ob, nI (s.length + 2), nt, lc, ic, iz, ki, op, so, bb, vC, vS, lC, lS, lP, lK, lT, mC, mS) := by
  have e1 : vC (8 * (s.length + 1)) = i.2 0 := vl_xS_0 hs hi
  obtain ⟨-, ⟨g1, g2, g3⟩, g4⟩ := hs
  unfold wpX_runAt
  refine vx_pop (h := s.length + 1) (by omega) ?_
  rw [e1]
  simp (disch := omega) only [nI_pred, nI_clamp, vl_in, forall_eq, true_and, g1, vl_m8]
  refine br_c ?_ ?_
  · intro z
    refine vx_push (by omega) ?_
    have e : vl_at (i.2 0) r = 0 := if_neg (fun w => Int32.not_lt.mpr w.1 z)
    rw [e] at hp
    exact hp _ _ (vl_xS_num g4)
  · intro z
    obtain ⟨j, hj, ej⟩ := nI_of z
    rw [ej] at hp ⊢
    refine br_c ?_ ?_
    · intro z2
      refine vx_push (by omega) ?_
      have e : vl_at (nI j) r = 0 := if_neg (fun w => Int32.not_lt.mpr z2 w.2)
      rw [e] at hp
      exact hp _ _ (vl_xS_num g4)
    · intro z2
      rw [nI_leI (by omega) hj] at z2
      simp (disch := omega) only [nI_add, nI_clamp, vl_in, forall_eq, true_and]
      rw [g3 j (by omega)]
      refine vx_push (by omega) ?_
      have e : vl_at (nI j) r = r.2 j := by
        unfold vl_at
        rw [if_pos ⟨nI_pos' hj, nI_lt (by omega) (by omega)⟩, nI_clamp hj]
      rw [e] at hp
      exact hp _ _ (vl_xS_num g4)
theorem vx_up30 {c : Nat} (hc : c ≤ 8) (g4 : vl_xS vC vS s) (hl : s.length + 1 ≤ 6)
    (hp : ∀ C Z, vl_xS C Z ((c, fun p => nI p) :: s) → post (tc, sc, ob, nI (s.length + 1), nt, lc, ic, iz, ki, op, so, bb, C, Z, lC, lS, lP, lK, lT, mC, mS)) : ∃ n, wX_runUpTo_30 post (nI c) (nI (8 * s.length)) tc sc ob (nI s.length) nt lc n 0 ic iz ki op so bb vC vS lC lS lP lK lT mC mS := by
  refine ⟨c + 1, vl_copy (W := fun k p b => wX_runUpTo_30 post (nI c) (nI (8 * s.length)) tc sc ob (nI s.length) nt lc k (nI p) ic iz ki op so bb (b) vS lC lS lP lK lT mC mS) (src := fun p => nI p) (a := vC) (o := 8 * s.length) (c := c) ?_ ?_⟩
  · intro k b h1 h2
    refine br_t (nI_le (Nat.le_refl _) (by omega)) ?_
    simp (disch := omega) only [nI_clamp, vl_in, forall_eq, true_and, nI_1]
    exact hp _ _ (vl_xS_push g4 hc pk_us h1 (fun j hj => h2 j (Or.inl hj)) (fun j hj => pk_un (by omega)))
  · intro k p b hpc h1 h2 h3
    refine br_f (nI_ge hpc (by omega)) ?_
    simp (disch := omega) only [nI_add, nI_clamp, vl_in, forall_eq, true_and, nI_1]
    exact h3
theorem vx_upto {c : vl_rw} (hs : vl_xS vC vS (c :: s)) (h1 : c.1 = 1) (hl : s.length + 1 ≤ 6)
    (hp : ∀ C Z, vl_xS C Z ((vl_cl (c.2 0), fun p => nI p) :: s) → post (tc, sc, ob, nI (s.length + 1), nt, lc, ic, iz, ki, op, so, bb, C, Z, lC, lS, lP, lK, lT, mC, mS)) : wpX_runUpTo post (tc, sc, ob, nI (s.length + 1), nt, lc, ic, iz, ki, op, so, bb, vC, vS, lC, lS, lP, lK, lT, mC, mS) := by
  have e1 : vC (8 * s.length) = c.2 0 := vl_xS_0 hs h1
  unfold wpX_runUpTo
  refine vx_pop (h := s.length) (by omega) ?_
  rw [e1]
  refine br_c ?_ ?_
  · intro z
    obtain ⟨j, hj, ej⟩ := nI_of (Int32.not_lt.mpr z)
    rw [ej] at hp ⊢
    unfold wX_runUpTo_11
    simp only [vl_m8, forall_eq]
    refine pk_le j 8 ?_ ?_ rfl rfl hj
    · intro hj8
      have e : vl_cl (nI j) = j := vl_cl_le hj8
      rw [e] at hp
      exact vx_up30 hj8 hs.2 hl hp
    · intro hj8
      have e : vl_cl (nI j) = 8 := vl_cl_gt hj8 hj
      rw [e] at hp
      exact vx_up30 (c := 8) (by omega) hs.2 hl hp
  · intro z
    have e : vl_cl (c.2 0) = 0 := if_pos (Int32.not_le.mp z)
    rw [e] at hp
    unfold wX_runUpTo_11
    simp only [vl_m8, forall_eq]
    refine br_t (by decide) ?_
    exact vx_up30 (c := 0) (by omega) hs.2 hl hp
