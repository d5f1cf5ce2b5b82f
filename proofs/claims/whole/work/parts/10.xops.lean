/-! part 10: the component's small methods -/
variable {tc sc ob vc nt lc : Int32} {ic iz ki op so bb vC vS lC lS lP lK lT mC mS : Nat → Int32} {K : Nat → Nat}
theorem vx_push {post : SX → Prop} {v : Int32} {h : Nat} (hh : h < 6) (hp : post (tc, sc, ob, nI (h + 1), nt, lc, ic, iz, ki, op, so, bb, upd vC (8 * h) v, upd vS h 1, lC, lS, lP, lK, lT, mC, mS)) : wpX_pushNumber post (tc, sc, ob, nI h, nt, lc, ic, iz, ki, op, so, bb, vC, vS, lC, lS, lP, lK, lT, mC, mS) v := by
  unfold wpX_pushNumber
  simp (disch := omega) only [vl_m8, nI_clamp, vl_in, forall_eq, true_and, nI_1]
  exact hp
theorem vx_pop {post : Int32 → SX → Prop} {h : Nat} (hh : h < 6) (hp : post (vC (8 * h)) (tc, sc, ob, nI h, nt, lc, ic, iz, ki, op, so, bb, vC, vS, lC, lS, lP, lK, lT, mC, mS)) : wpX_popNumber post (tc, sc, ob, nI (h + 1), nt, lc, ic, iz, ki, op, so, bb, vC, vS, lC, lS, lP, lK, lT, mC, mS) := by
  unfold wpX_popNumber
  simp (disch := omega) only [nI_pred, vl_m8, nI_clamp, vl_in, forall_eq, true_and]
  exact hp
theorem vx_elem {post : Int32 → Prop} {i : Nat} {L : List vl_ln} (hL : vl_xL K lC lS lP lK lT mC mS L) (hi : i < L.length) (h2 : L.length ≤ 2) (hp : post (vl_el L i)) : wpX_currentElement post (tc, sc, ob, vc, nt, lc, ic, iz, ki, op, so, bb, vC, vS, lC, lS, lP, lK, lT, mC, mS) (nI i) := by
  obtain ⟨e, he, h3, h4⟩ := vl_xL_el hL hi
  unfold wpX_currentElement
  simp (disch := omega) only [nI_clamp, h3, vl_m8, nI_add, vl_in, true_and, h4]
  exact hp
theorem vx_pushInput {post : SX → Prop} {h i c : Nat} (hh : h < 6) (hi : i < 3) (hc : c ≤ 8) (hz : iz i = nI c)
    (hp : ∀ b, (∀ p, p < c → b (8 * h + p) = ic (8 * i + p)) → (∀ j, j < 8 * h ∨ 8 * h + c ≤ j → b j = vC j) → post (tc, sc, ob, nI (h + 1), nt, lc, ic, iz, ki, op, so, bb, b, upd vS h (nI c), lC, lS, lP, lK, lT, mC, mS)) : wpX_pushInput post (tc, sc, ob, nI h, nt, lc, ic, iz, ki, op, so, bb, vC, vS, lC, lS, lP, lK, lT, mC, mS) (nI i) := by
  unfold wpX_pushInput
  simp (disch := omega) only [vl_m8, nI_clamp, hz, vl_in, forall_eq, true_and]
  refine ⟨c + 1, vl_copy (W := fun k p b => wX_pushInput_24 post (nI (8 * h)) (nI (8 * i)) (nI c) tc sc ob (nI h) nt lc k (nI p) ic iz ki op so bb (b) vS lC lS lP lK lT mC mS) (src := fun p => ic (8 * i + p)) (a := vC) (o := 8 * h) (c := c) ?_ ?_⟩
  · intro k b h1 h2
    refine br_t (nI_le (Nat.le_refl _) (by omega)) ?_
    simp (disch := omega) only [nI_clamp, vl_in, forall_eq, true_and, nI_1]
    exact hp b h1 h2
  · intro k p b hpc h1 h2 h3
    refine br_f (nI_ge hpc (by omega)) ?_
    simp (disch := omega) only [nI_add, nI_clamp, vl_in, forall_eq, true_and, nI_1]
    exact h3
theorem vx_sumOf {post : Int32 → Prop} {f : Nat → Int32} {o c : Nat} (ho : o + c ≤ 48) (hf : ∀ p, p < c → vC (o + p) = f p) (hp : post (vl_sm f c)) : wpX_sumOf post (tc, sc, ob, vc, nt, lc, ic, iz, ki, op, so, bb, vC, vS, lC, lS, lP, lK, lT, mC, mS) (nI o) (nI c) := by
  unfold wpX_sumOf
  refine ⟨c - 0 + 1, vl_acc (W := fun k p s => wX_sumOf_5 post (nI o) (nI c) tc sc ob vc nt lc ic iz ki op so bb vC vS lC lS lP lK lT mC mS k s (nI p)) (F := vl_sm f) (c := c) 0 (by omega) ?_ ?_⟩
  · intro k
    exact br_t (nI_le (Nat.le_refl _) (by omega)) hp
  · intro k p _ hpc h3
    refine br_f (nI_ge hpc (by omega)) ?_
    simp (disch := omega) only [nI_add, nI_clamp, vl_in, forall_eq, true_and, nI_1, hf p hpc]
    exact h3
theorem vx_greatestOf {post : Int32 → Prop} {f : Nat → Int32} {o c : Nat} (ho : o + c ≤ 48) (h48 : o < 48) (hf : ∀ p, p < c → vC (o + p) = f p) (hp : post (vl_mx f c)) : wpX_greatestOf post (tc, sc, ob, vc, nt, lc, ic, iz, ki, op, so, bb, vC, vS, lC, lS, lP, lK, lT, mC, mS) (nI o) (nI c) := by
  unfold wpX_greatestOf
  by_cases h0 : c = 0
  · subst h0
    exact br_t rfl hp
  · refine br_f (by rw [vl_z (by omega)]; exact h0) ?_
    have e0 : vC o = vl_mx f 1 := hf 0 (by omega)
    simp (disch := omega) only [nI_clamp, vl_in, forall_eq, true_and, e0]
    refine ⟨c - 1 + 1, vl_acc (W := fun k p s => wX_greatestOf_16 post (nI o) (nI c) tc sc ob vc nt lc ic iz ki op so bb vC vS lC lS lP lK lT mC mS k s (nI p)) (F := vl_mx f) (c := c) 1 (by omega) ?_ ?_⟩
    · intro k
      exact br_t (nI_le (Nat.le_refl _) (by omega)) hp
    · intro k p hp1 hpc h3
      refine br_f (nI_ge hpc (by omega)) ?_
      simp (disch := omega) only [nI_add, nI_clamp, vl_in, forall_eq, true_and, nI_1, hf p hpc]
      cases p with
      | zero => omega
      | succ p =>
        have e1 : vl_mx f (p + 1 + 1) = if vl_mx f (p + 1) < f (p + 1) then f (p + 1) else vl_mx f (p + 1) := rfl
        by_cases hg : f (p + 1) ≤ vl_mx f (p + 1)
        · rw [e1, if_neg (Int32.not_lt.mpr hg)] at h3
          exact br_t hg h3
        · rw [e1, if_pos (Int32.not_le.mp hg)] at h3
          exact br_f hg h3
