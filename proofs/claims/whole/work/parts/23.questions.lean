/-! part 23: the questions -/
variable {n : Nat} {K zs : Nat → Nat} {tc sc ob vc nt lc : Int32} {ic iz ki op so bb vC vS lC lS lP lK lT mC mS : Nat → Int32} {cn hg oc tp dp : Int32} {sz inq kq aq ra fl ln va bg mn rs el os ou : Nat → Int32}
def vl_wh (K : Nat → Nat) (n : Nat) : Prop := (vl_st K n).2 = [] ∧ (vl_st K n).1.length = 1
theorem vx_whole {post : Int32 → Prop} (h : vl_PG K op n) (h1 : vl_wh K n → post 1) (h0 : ¬ vl_wh K n → post 0) : wpX_isWhole post (tc, nI (vl_st K n).1.length, nI (vl_st K n).2.length, vc, nt, lc, ic, iz, ki, op, so, bb, vC, vS, lC, lS, lP, lK, lT, mC, mS) := by
  obtain ⟨b1, b2⟩ := vl_bd h n (Nat.le_refl _)
  unfold wpX_isWhole
  refine pk_eq (vl_st K n).2.length 0 ?_ ?_ rfl rfl (by omega) (by omega)
  · intro e
    refine pk_eq (vl_st K n).1.length 1 ?_ ?_ rfl rfl (by omega) (by omega)
    · intro e2; exact h1 ⟨List.length_eq_zero_iff.mp e, e2⟩
    · intro e2; exact h0 (fun q => e2 q.2)
  · intro e; exact h0 (fun q => e (by rw [q.1]; rfl))
theorem vy_whole {post : Int32 → SY → Prop} (h : vl_PG K aq n) (hn40 : n ≤ 40) (hK : ∀ t, t < n → kq t = nI (K t))
    (h1 : vl_wh K n → ∀ hg oc ra fl, vl_xT vl_yb ra (vl_st K n).1 → post 1 (nI n, hg, oc, tp, dp, sz, inq, kq, aq, ra, fl, ln, va, bg, mn, rs, el, os, ou)) (h0 : ¬ vl_wh K n → ∀ hg oc ra fl, post 0 (nI n, hg, oc, tp, dp, sz, inq, kq, aq, ra, fl, ln, va, bg, mn, rs, el, os, ou)) : wpY_isWhole post (nI n, hg, oc, tp, dp, sz, inq, kq, aq, ra, fl, ln, va, bg, mn, rs, el, os, ou) := by
  obtain ⟨b1, b2⟩ := vl_bd h n (Nat.le_refl _)
  unfold wpY_isWhole
  refine vy_check h hn40 hK ?_
  intro a b q1 q2
  refine pk_eq (vl_st K n).2.length 0 ?_ ?_ rfl rfl (by omega) (by omega)
  · intro e
    refine pk_eq (vl_st K n).1.length 1 ?_ ?_ rfl rfl (by omega) (by omega)
    · intro e2; exact h1 ⟨List.length_eq_zero_iff.mp e, e2⟩ _ _ _ _ q1
    · intro e2; exact h0 (fun q => e2 q.2) _ _ _ _
  · intro e; exact h0 (fun q => e (by rw [q.1]; rfl)) _ _ _ _
/-- a whole program has one result, on both sides -/
theorem vr_res (hI : vl_Inv n K zs ic iz ki op so bb inq) (hw : vl_wh K n) : ∃ r : vl_rw, r.1 ≤ 8 ∧
    (∀ (post : SX → Prop) (sc ob vc nt lc : Int32) (so bb vC vS lC lS lP lK lT mC mS : Nat → Int32), (∀ vc nt lc vC vS lC lS lP lK lT mC mS, vS 0 = nI r.1 → (∀ p, p < r.1 → vC p = r.2 p) → post (nI n, sc, ob, vc, nt, lc, ic, iz, ki, op, so, bb, vC, vS, lC, lS, lP, lK, lT, mC, mS)) → wpX_workOut post (nI n, sc, ob, vc, nt, lc, ic, iz, ki, op, so, bb, vC, vS, lC, lS, lP, lK, lT, mC, mS)) ∧
    (∀ (post : SY → Prop) (hg oc tp dp : Int32) (ra fl ln va bg mn rs el os ou : Nat → Int32), (∀ tp dp ln va bg mn rs el os ou, ln 0 = nI r.1 → (∀ p, p < r.1 → va p = r.2 p) → post (nI n, hg, oc, tp, dp, iz, inq, ki, op, ra, fl, ln, va, bg, mn, rs, el, os, ou)) → wpY_work post (nI n, hg, oc, tp, dp, iz, inq, ki, op, ra, fl, ln, va, bg, mn, rs, el, os, ou)) := by
  obtain ⟨a1, a2, a3, a4, a5, a6⟩ := hI
  have hz : ∀ i, i < 3 → zs i ≤ 8 := fun i hi => (a4 i hi).2.1
  obtain ⟨r, h8, hr, -, -⟩ := vl_run_end (zs := zs) (inp := fun i p => ic (8 * i + p)) a2 a1 hw.1 hw.2 hz
  refine ⟨r, h8, ?_, ?_⟩
  · intro post sc ob vc nt lc so bb vC vS lC lS lP lK lT mC mS hp
    exact vx_workOut a2 a1 hw.1 a3 (fun i hi => ⟨(a4 i hi).1, (a4 i hi).2.1, fun p _ => rfl⟩) hr hp
  · intro post hg oc tp dp ra fl ln va bg mn rs el os ou hp
    exact vy_work a2 a1 hw.1 a3 (fun i hi => ⟨(a4 i hi).1, (a4 i hi).2.1, fun p hpp => ((a4 i hi).2.2 p hpp).symm⟩) hr hp
theorem i_vc_sort {k : Nat} {u : SX} {v : SY} (I : i_Rel k u v) (hk : k + 4 ≤ 2048) : wpX_sort (fun r => wpY_sort (fun r' v' => r' = r ∧ i_Rel (k + 4) u v') v) u := by
  obtain ⟨n, K, zs, vc, nt, lc, ic, iz, ki, op, so, bb, vC, vS, lC, lS, lP, lK, lT, mC, mS, hg, oc, tp, dp, inq, ra, fl, ln, va, bg, mn, rs, el, os, ou, rfl, rfl, hI⟩ := I
  have hI0 := hI
  obtain ⟨a1, a2, a3, a4, a5, a6⟩ := hI
  unfold wpX_sort wpY_sort
  refine vx_whole a2 ?_ ?_
  · intro hw
    refine br_f (by decide) ?_
    refine vy_whole a2 a1 a3 ?_ ?_
    · intro _ hg' oc' ra' fl' q1
      refine br_f (by decide) ?_
      have h12 := vl_st_12 (K := K) n
      have hw2 := hw.2
      rcases hst : (vl_st K n).1 with _ | ⟨x, S⟩
      · rw [hst] at hw2; cases hw2
      · rw [hst] at hw2 a5 q1 h12
        have hS : S = [] := List.length_eq_zero_iff.mp (by rw [List.length_cons] at hw2; omega)
        subst hS
        have e1 : so 0 = nI x := a5.1
        have e2 : ra' 0 = vl_yb x := q1.1
        rw [e2, e1]
        rcases h12 x (List.mem_cons_self ..) with rfl | rfl
        · exact br_t rfl ⟨rfl, by rw [← hst]; exact vr_mk hI0⟩
        · exact br_f (by decide) ⟨rfl, by rw [← hst]; exact vr_mk hI0⟩
    · intro hw2; exact absurd hw hw2
  · intro hw
    refine br_t rfl ?_
    refine vy_whole a2 a1 a3 ?_ ?_
    · intro hw2; exact absurd hw2 hw
    · intro _ hg' oc' ra' fl'
      exact br_t rfl ⟨rfl, vr_mk hI0⟩
theorem i_vc_length {k : Nat} {u : SX} {v : SY} (I : i_Rel k u v) (hk : k + 4 ≤ 2048) : wpX_length (fun r u' => wpY_length (fun r' v' => r' = r ∧ i_Rel (k + 4) u' v') v) u := by
  obtain ⟨n, K, zs, vc, nt, lc, ic, iz, ki, op, so, bb, vC, vS, lC, lS, lP, lK, lT, mC, mS, hg, oc, tp, dp, inq, ra, fl, ln, va, bg, mn, rs, el, os, ou, rfl, rfl, hI⟩ := I
  have hI0 := hI
  obtain ⟨a1, a2, a3, a4, a5, a6⟩ := hI
  unfold wpX_length wpY_length
  refine vx_whole a2 ?_ ?_
  · intro hw
    obtain ⟨r, h8, hX, hY⟩ := vr_res hI0 hw
    refine br_f (by decide) ?_
    refine hX _ _ _ _ _ _ _ _ _ _ _ _ _ _ _ _ _ ?_
    intro vc' nt' lc' vC' vS' lC' lS' lP' lK' lT' mC' mS' e1 e2
    dsimp only
    refine vy_whole a2 a1 a3 ?_ ?_
    · intro _ hg' oc' ra' fl' q1
      refine br_f (by decide) ?_
      refine hY _ _ _ _ _ _ _ _ _ _ _ _ _ _ _ ?_
      intro tp' dp' ln' va' bg' mn' rs' el' os' ou' e3 e4
      exact ⟨e3.trans e1.symm, vr_mk hI0⟩
    · intro hw2; exact absurd hw hw2
  · intro hw
    refine br_t rfl ?_
    refine vy_whole a2 a1 a3 ?_ ?_
    · intro hw2; exact absurd hw2 hw
    · intro _ hg' oc' ra' fl'
      exact br_t rfl ⟨rfl, vr_mk hI0⟩
theorem i_vc_result {k : Nat} {u : SX} {v : SY} (I : i_Rel k u v) (hk : k + 4 ≤ 2048) (v1 : Int32) : wpX_result (fun r u' => wpY_result (fun r' v' => r' = r ∧ i_Rel (k + 4) u' v') v v1) u v1 := by
  obtain ⟨n, K, zs, vc, nt, lc, ic, iz, ki, op, so, bb, vC, vS, lC, lS, lP, lK, lT, mC, mS, hg, oc, tp, dp, inq, ra, fl, ln, va, bg, mn, rs, el, os, ou, rfl, rfl, hI⟩ := I
  have hI0 := hI
  obtain ⟨a1, a2, a3, a4, a5, a6⟩ := hI
  unfold wpX_result wpY_result
  refine vx_whole a2 ?_ ?_
  · intro hw
    obtain ⟨r, h8, hX, hY⟩ := vr_res hI0 hw
    refine br_f (by decide) ?_
    refine hX _ _ _ _ _ _ _ _ _ _ _ _ _ _ _ _ _ ?_
    intro vc' nt' lc' vC' vS' lC' lS' lP' lK' lT' mC' mS' e1 e2
    dsimp only
    rw [e1]
    refine br_c ?_ ?_
    · intro z
      refine vy_whole a2 a1 a3 ?_ ?_
      · intro _ hg' oc' ra' fl' q1
        refine br_f (by decide) ?_
        refine hY _ _ _ _ _ _ _ _ _ _ _ _ _ _ _ ?_
        intro tp' dp' ln' va' bg' mn' rs' el' os' ou' e3 e4
        exact br_t z ⟨rfl, vr_mk hI0⟩
      · intro hw2; exact absurd hw hw2
    · intro z
      obtain ⟨p, hp, rfl⟩ := nI_of z
      refine pk_lt p r.1 ?_ ?_ rfl rfl hp (by omega)
      · intro hpr
        rw [nI_clamp hp, e2 p hpr]
        refine ⟨vp_in_nI (by omega) (by decide), ?_⟩
        refine vy_whole a2 a1 a3 ?_ ?_
        · intro _ hg' oc' ra' fl' q1
          refine br_f (by decide) ?_
          refine hY _ _ _ _ _ _ _ _ _ _ _ _ _ _ _ ?_
          intro tp' dp' ln' va' bg' mn' rs' el' os' ou' e3 e4
          refine br_f z ?_
          dsimp only
          rw [e3]
          refine br_f (nI_ge hpr (by omega)) ⟨vp_in_nI (by omega) (by decide), ?_, vr_mk hI0⟩
          exact e4 p hpr
        · intro hw2; exact absurd hw hw2
      · intro hpr
        refine vy_whole a2 a1 a3 ?_ ?_
        · intro _ hg' oc' ra' fl' q1
          refine br_f (by decide) ?_
          refine hY _ _ _ _ _ _ _ _ _ _ _ _ _ _ _ ?_
          intro tp' dp' ln' va' bg' mn' rs' el' os' ou' e3 e4
          refine br_f z ?_
          dsimp only
          rw [e3]
          exact br_t (nI_le hpr hp) ⟨rfl, vr_mk hI0⟩
        · intro hw2; exact absurd hw hw2
  · intro hw
    refine br_t rfl ?_
    refine vy_whole a2 a1 a3 ?_ ?_
    · intro hw2; exact absurd hw2 hw
    · intro _ hg' oc' ra' fl'
      exact br_t rfl ⟨rfl, vr_mk hI0⟩
def vl_mi (f : Nat → Int32) : Nat → Int32
  | 0 => 0
  | p + 1 => vl_mi f p + f p * nI (p + 1)
theorem i_vc_mixture {k : Nat} {u : SX} {v : SY} (I : i_Rel k u v) (hk : k + 4 ≤ 2048) : wpX_mixture (fun r u' => wpY_mixture (fun r' v' => r' = r ∧ i_Rel (k + 4) u' v') v) u := by
  obtain ⟨n, K, zs, vc, nt, lc, ic, iz, ki, op, so, bb, vC, vS, lC, lS, lP, lK, lT, mC, mS, hg, oc, tp, dp, inq, ra, fl, ln, va, bg, mn, rs, el, os, ou, rfl, rfl, hI⟩ := I
  have hI0 := hI
  obtain ⟨a1, a2, a3, a4, a5, a6⟩ := hI
  unfold wpX_mixture wpY_mixture
  refine vx_whole a2 ?_ ?_
  · intro hw
    obtain ⟨r, h8, hX, hY⟩ := vr_res hI0 hw
    refine br_f (by decide) ?_
    refine hX _ _ _ _ _ _ _ _ _ _ _ _ _ _ _ _ _ ?_
    intro vc' nt' lc' vC' vS' lC' lS' lP' lK' lT' mC' mS' e1 e2
    refine nm_r e1 ⟨r.1 - 0 + 1, vl_acc (W := fun q p x => wX_mixture_24 _ (nI r.1) (nI n) _ _ _ _ _ _ _ _ _ _ _ _ _ _ _ _ _ _ _ _ q x (nI p)) (F := vl_mi r.2) (c := r.1) 0 (by omega) ?_ ?_⟩
    · intro q
      refine br_t (nI_le (Nat.le_refl _) (by omega)) ?_
      refine vy_whole a2 a1 a3 ?_ ?_
      · intro _ hg' oc' ra' fl' q1
        refine br_f (by decide) ?_
        refine hY _ _ _ _ _ _ _ _ _ _ _ _ _ _ _ ?_
        intro tp' dp' ln' va' bg' mn' rs' el' os' ou' e3 e4
        refine ⟨r.1 - 0 + 1, vl_acc (W := fun q p x => wY_mixture_17 _ (nI n) _ _ _ _ _ _ _ _ _ _ _ _ _ _ _ _ _ _ q x (nI p)) (F := vl_mi r.2) (c := r.1) 0 (by omega) ?_ ?_⟩
        · intro q
          exact br_t (by rw [e3]; exact nI_le (Nat.le_refl _) (by omega)) ⟨rfl, vr_mk hI0⟩
        · intro q p _ hpc h3
          refine br_f (by rw [e3]; exact nI_ge hpc (by omega)) ⟨vp_in_nI (by omega) (by decide), ?_⟩
          rw [nI_clamp (by omega), e4 p hpc, nI_1]
          exact nm_e (nm_e h3)
      · intro hw2; exact absurd hw hw2
    · intro q p _ hpc h3
      refine br_f (nI_ge hpc (by omega)) ⟨vp_in_nI (by omega) (by decide), ?_⟩
      rw [nI_clamp (by omega), e2 p hpc, nI_1]
      exact nm_e (nm_e h3)
  · intro hw
    refine br_t rfl ?_
    refine vy_whole a2 a1 a3 ?_ ?_
    · intro hw2; exact absurd hw2 hw
    · intro _ hg' oc' ra' fl'
      exact br_t rfl ⟨rfl, vr_mk hI0⟩
