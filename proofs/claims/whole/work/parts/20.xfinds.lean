/-! part 20: what the component finds -/
variable {tc sc ob vc nt lc : Int32} {ic iz ki op so bb vC vS lC lS lP lK lT mC mS : Nat → Int32} {K : Nat → Nat} {S F R : List Nat}
theorem vx_f2 {post : Int32 → Prop} {a b : Nat} (ha : a < 3) (hb3 : b < 3) (h6 : S.length ≤ 6) (hF2 : F.length ≤ 2) (hS : vl_xT nI so S) (hB : vl_xT nI bb F) (h12 : ∀ x, x ∈ S → x = 1 ∨ x = 2) (hb : vl_base F ≤ S.length)
    (h1 : (vl_sd S F 0 a ∧ vl_sd S F 1 b) → post 1) (h0 : ¬ (vl_sd S F 0 a ∧ vl_sd S F 1 b) → post 0) :
    wpX_stands (fun r => ((r = 0 → post 0) ∧ (¬ r = 0 → wpX_stands (fun r => ((r = 0 → post 0) ∧ (¬ r = 0 → post 1))) (tc, nI S.length, nI F.length, vc, nt, lc, ic, iz, ki, op, so, bb, vC, vS, lC, lS, lP, lK, lT, mC, mS) (nI 1) (nI b)))) (tc, nI S.length, nI F.length, vc, nt, lc, ic, iz, ki, op, so, bb, vC, vS, lC, lS, lP, lK, lT, mC, mS) (nI 0) (nI a) := by
  refine vx_stands (by omega) ha h6 hF2 hS hB h12 hb ?_ ?_
  · intro q1
    refine br_f (by decide) ?_
    refine vx_stands (by omega) hb3 h6 hF2 hS hB h12 hb ?_ ?_
    · intro q2; exact br_f (by decide) (h1 ⟨q1, q2⟩)
    · intro q2; exact br_t rfl (h0 (fun q => q2 q.2))
  · intro q1; exact br_t rfl (h0 (fun q => q1 q.1))
theorem vx_f1 {post : Int32 → Prop} {a : Nat} (ha : a < 3) (h6 : S.length ≤ 6) (hF2 : F.length ≤ 2) (hS : vl_xT nI so S) (hB : vl_xT nI bb F) (h12 : ∀ x, x ∈ S → x = 1 ∨ x = 2) (hb : vl_base F ≤ S.length)
    (h1 : vl_sd S F 0 a → post 1) (h0 : ¬ vl_sd S F 0 a → post 0) :
    wpX_stands (fun r => narrow .boolean (.int r) = .int r ∧ post r) (tc, nI S.length, nI F.length, vc, nt, lc, ic, iz, ki, op, so, bb, vC, vS, lC, lS, lP, lK, lT, mC, mS) (nI 0) (nI a) := by
  refine vx_stands (by omega) ha h6 hF2 hS hB h12 hb ?_ ?_
  · intro q1; exact ⟨rfl, h1 q1⟩
  · intro q1; exact ⟨rfl, h0 q1⟩
theorem vx_finds {post : Int32 → Prop} {k : Nat} (hk : k < 22) (h6 : S.length ≤ 6) (hF2 : F.length ≤ 2) (hS : vl_xT nI so S) (hB : vl_xT nI bb F) (h12 : ∀ x, x ∈ S → x = 1 ∨ x = 2) (hb : vl_base F ≤ S.length)
    (h1 : vl_fd k (S, F) → post 1) (h0 : ¬ vl_fd k (S, F) → post 0) : wpX_findsWhatItTakes post (tc, nI S.length, nI F.length, vc, nt, lc, ic, iz, ki, op, so, bb, vC, vS, lC, lS, lP, lK, lT, mC, mS) (nI k) := by
  have c : k = 0 ∨ k = 1 ∨ k = 2 ∨ k = 3 ∨ k = 4 ∨ k = 5 ∨ k = 6 ∨ k = 7 ∨ k = 8 ∨ k = 9 ∨ k = 10 ∨ k = 11 ∨ k = 12 ∨ k = 13 ∨ k = 14 ∨ k = 15 ∨ k = 16 ∨ k = 17 ∨ k = 18 ∨ k = 19 ∨ k = 20 ∨ k = 21 := by omega
  unfold wpX_findsWhatItTakes
  rcases c with rfl | rfl | rfl | rfl | rfl | rfl | rfl | rfl | rfl | rfl | rfl | rfl | rfl | rfl | rfl | rfl | rfl | rfl | rfl | rfl | rfl | rfl
  · refine br_f (by decide) (br_f (by decide) (br_t (by decide) ?_))
    exact h1 (vl_fd_0 (by omega) hb)
  · refine br_f (by decide) (br_f (by decide) (br_f (by decide) (br_t (by decide) ?_)))
    exact h1 (vl_fd_0 (by omega) hb)
  · refine br_f (by decide) (br_f (by decide) (br_f (by decide) (br_f (by decide) (br_t (by decide) ?_))))
    exact h1 (vl_fd_0 (by omega) hb)
  · refine br_f (by decide) (br_f (by decide) (br_f (by decide) (br_f (by decide) (br_f (by decide) (br_t (by decide) ?_)))))
    rw [vl_fd_nn (by omega) (by omega)] at h1 h0
    exact vx_f2 (a := 1) (b := 1) (by omega) (by omega) h6 hF2 hS hB h12 hb h1 h0
  · refine br_f (by decide) (br_f (by decide) (br_f (by decide) (br_f (by decide) (br_f (by decide) (br_f (by decide) (br_t (by decide) ?_))))))
    rw [vl_fd_nn (by omega) (by omega)] at h1 h0
    exact vx_f2 (a := 1) (b := 1) (by omega) (by omega) h6 hF2 hS hB h12 hb h1 h0
  · refine br_f (by decide) (br_f (by decide) (br_f (by decide) (br_f (by decide) (br_f (by decide) (br_f (by decide) (br_f (by decide) (br_t (by decide) ?_)))))))
    rw [vl_fd_nn (by omega) (by omega)] at h1 h0
    exact vx_f2 (a := 1) (b := 1) (by omega) (by omega) h6 hF2 hS hB h12 hb h1 h0
  · refine br_f (by decide) (br_f (by decide) (br_f (by decide) (br_f (by decide) (br_f (by decide) (br_f (by decide) (br_f (by decide) (br_f (by decide) (br_t (by decide) ?_))))))))
    rw [vl_fd_nn (by omega) (by omega)] at h1 h0
    exact vx_f2 (a := 1) (b := 1) (by omega) (by omega) h6 hF2 hS hB h12 hb h1 h0
  · refine br_f (by decide) (br_f (by decide) (br_f (by decide) (br_f (by decide) (br_f (by decide) (br_f (by decide) (br_f (by decide) (br_f (by decide) (br_f (by decide) (br_t (by decide) ?_)))))))))
    rw [vl_fd_nn (by omega) (by omega)] at h1 h0
    exact vx_f2 (a := 1) (b := 1) (by omega) (by omega) h6 hF2 hS hB h12 hb h1 h0
  · refine br_f (by decide) (br_f (by decide) (br_f (by decide) (br_f (by decide) (br_f (by decide) (br_f (by decide) (br_f (by decide) (br_f (by decide) (br_f (by decide) (br_f (by decide) (br_t (by decide) ?_))))))))))
    rw [vl_fd_nn (by omega) (by omega)] at h1 h0
    exact vx_f2 (a := 1) (b := 1) (by omega) (by omega) h6 hF2 hS hB h12 hb h1 h0
  · refine br_f (by decide) (br_f (by decide) (br_f (by decide) (br_f (by decide) (br_f (by decide) (br_f (by decide) (br_f (by decide) (br_f (by decide) (br_f (by decide) (br_f (by decide) (br_f (by decide) (br_t (by decide) ?_)))))))))))
    rw [vl_fd_9] at h1 h0
    refine vx_stands (i := 0) (w := 1) (by omega) (by omega) h6 hF2 hS hB h12 hb ?_ ?_
    · intro q1
      refine br_f (by decide) ?_
      refine vx_stands (i := 1) (w := 1) (by omega) (by omega) h6 hF2 hS hB h12 hb ?_ ?_
      · intro q2
        refine br_f (by decide) ?_
        refine vx_stands (i := 2) (w := 1) (by omega) (by omega) h6 hF2 hS hB h12 hb ?_ ?_
        · intro q3; exact br_f (by decide) (h1 ⟨q1, q2, q3⟩)
        · intro q3; exact br_t rfl (h0 (fun q => q3 q.2.2))
      · intro q2; exact br_t rfl (h0 (fun q => q2 q.2.1))
    · intro q1; exact br_t rfl (h0 (fun q => q1 q.1))
  · refine br_f (by decide) (br_f (by decide) (br_f (by decide) (br_f (by decide) (br_f (by decide) (br_f (by decide) (br_f (by decide) (br_f (by decide) (br_f (by decide) (br_f (by decide) (br_f (by decide) (br_f (by decide) (br_t (by decide) ?_))))))))))))
    rw [vl_fd_r (by omega)] at h1 h0
    exact vx_f1 (a := 2) (by omega) h6 hF2 hS hB h12 hb h1 h0
  · refine br_f (by decide) (br_f (by decide) (br_f (by decide) (br_f (by decide) (br_f (by decide) (br_f (by decide) (br_f (by decide) (br_f (by decide) (br_f (by decide) (br_f (by decide) (br_f (by decide) (br_f (by decide) (br_f (by decide) (br_t (by decide) ?_)))))))))))))
    rw [vl_fd_r (by omega)] at h1 h0
    exact vx_f1 (a := 2) (by omega) h6 hF2 hS hB h12 hb h1 h0
  · refine br_f (by decide) (br_f (by decide) (br_f (by decide) (br_f (by decide) (br_f (by decide) (br_f (by decide) (br_f (by decide) (br_f (by decide) (br_f (by decide) (br_f (by decide) (br_f (by decide) (br_f (by decide) (br_f (by decide) (br_f (by decide) (br_t (by decide) ?_))))))))))))))
    rw [vl_fd_r (by omega)] at h1 h0
    exact vx_f1 (a := 2) (by omega) h6 hF2 hS hB h12 hb h1 h0
  · refine br_f (by decide) (br_f (by decide) (br_f (by decide) (br_f (by decide) (br_f (by decide) (br_f (by decide) (br_f (by decide) (br_f (by decide) (br_f (by decide) (br_f (by decide) (br_f (by decide) (br_f (by decide) (br_f (by decide) (br_f (by decide) (br_f (by decide) (br_t (by decide) ?_)))))))))))))))
    rw [vl_fd_13] at h1 h0
    exact vx_f2 (a := 1) (b := 2) (by omega) (by omega) h6 hF2 hS hB h12 hb h1 h0
  · refine br_f (by decide) (br_f (by decide) (br_f (by decide) (br_f (by decide) (br_f (by decide) (br_f (by decide) (br_f (by decide) (br_f (by decide) (br_f (by decide) (br_f (by decide) (br_f (by decide) (br_f (by decide) (br_f (by decide) (br_f (by decide) (br_f (by decide) (br_f (by decide) (br_t (by decide) ?_))))))))))))))))
    rw [vl_fd_14] at h1 h0
    exact vx_f1 (a := 1) (by omega) h6 hF2 hS hB h12 hb h1 h0
  · refine br_f (by decide) (br_f (by decide) (br_f (by decide) (br_f (by decide) (br_f (by decide) (br_f (by decide) (br_f (by decide) (br_f (by decide) (br_f (by decide) (br_f (by decide) (br_f (by decide) (br_f (by decide) (br_f (by decide) (br_f (by decide) (br_f (by decide) (br_f (by decide) (br_f (by decide) (br_t (by decide) ?_)))))))))))))))))
    rw [vl_fd_15] at h1 h0
    exact vx_f2 (a := 2) (b := 2) (by omega) (by omega) h6 hF2 hS hB h12 hb h1 h0
  · refine br_f (by decide) (br_f (by decide) (br_f (by decide) (br_f (by decide) (br_f (by decide) (br_f (by decide) (br_f (by decide) (br_f (by decide) (br_f (by decide) (br_f (by decide) (br_f (by decide) (br_f (by decide) (br_f (by decide) (br_f (by decide) (br_f (by decide) (br_f (by decide) (br_f (by decide) (br_f (by decide) (br_t (by decide) ?_))))))))))))))))))
    rw [vl_fd_r (by omega)] at h1 h0
    exact vx_f1 (a := 2) (by omega) h6 hF2 hS hB h12 hb h1 h0
  · refine br_f (by decide) (br_f (by decide) (br_f (by decide) (br_f (by decide) (br_f (by decide) (br_f (by decide) (br_f (by decide) (br_f (by decide) (br_f (by decide) (br_f (by decide) (br_f (by decide) (br_f (by decide) (br_f (by decide) (br_f (by decide) (br_f (by decide) (br_f (by decide) (br_f (by decide) (br_f (by decide) (br_f (by decide) (br_t (by decide) ?_)))))))))))))))))))
    rw [vl_fd_r (by omega)] at h1 h0
    exact vx_f1 (a := 2) (by omega) h6 hF2 hS hB h12 hb h1 h0
  · refine br_f (by decide) (br_f (by decide) (br_f (by decide) (br_f (by decide) (br_f (by decide) (br_f (by decide) (br_f (by decide) (br_f (by decide) (br_f (by decide) (br_f (by decide) (br_f (by decide) (br_f (by decide) (br_f (by decide) (br_f (by decide) (br_f (by decide) (br_f (by decide) (br_f (by decide) (br_f (by decide) (br_f (by decide) (br_f (by decide) (br_t (by decide) ?_))))))))))))))))))))
    rw [vl_fd_r (by omega)] at h1 h0
    exact vx_f1 (a := 2) (by omega) h6 hF2 hS hB h12 hb h1 h0
  · refine br_f (by decide) (br_f (by decide) (br_f (by decide) (br_f (by decide) (br_f (by decide) (br_f (by decide) (br_f (by decide) (br_f (by decide) (br_f (by decide) (br_f (by decide) (br_f (by decide) (br_f (by decide) (br_f (by decide) (br_f (by decide) (br_f (by decide) (br_f (by decide) (br_f (by decide) (br_f (by decide) (br_f (by decide) (br_f (by decide) (br_f (by decide) (br_t (by decide) ?_)))))))))))))))))))))
    rw [vl_fd_r (by omega)] at h1 h0
    exact vx_f1 (a := 2) (by omega) h6 hF2 hS hB h12 hb h1 h0
  · refine br_f (by decide) (br_f (by decide) (br_f (by decide) (br_f (by decide) (br_f (by decide) (br_f (by decide) (br_f (by decide) (br_f (by decide) (br_f (by decide) (br_f (by decide) (br_f (by decide) (br_f (by decide) (br_f (by decide) (br_f (by decide) (br_f (by decide) (br_f (by decide) (br_f (by decide) (br_f (by decide) (br_f (by decide) (br_f (by decide) (br_f (by decide) (br_f (by decide) (br_t (by decide) ?_))))))))))))))))))))))
    rw [vl_fd_r (by omega)] at h1 h0
    exact vx_f1 (a := 2) (by omega) h6 hF2 hS hB h12 hb h1 h0
  · refine br_f (by decide) (br_f (by decide) (br_f (by decide) (br_f (by decide) (br_f (by decide) (br_f (by decide) (br_f (by decide) (br_f (by decide) (br_f (by decide) (br_f (by decide) (br_f (by decide) (br_f (by decide) (br_f (by decide) (br_f (by decide) (br_f (by decide) (br_f (by decide) (br_f (by decide) (br_f (by decide) (br_f (by decide) (br_f (by decide) (br_f (by decide) (br_f (by decide) (br_f (by decide) (br_t (by decide) ?_)))))))))))))))))))))))
    rw [vl_fd_21] at h1 h0
    by_cases hF : F = []
    · subst hF
      exact br_t (by decide) (h0 (fun q => q.1 rfl))
    · have hl : 0 < F.length := List.length_pos_iff.mpr hF
      refine br_f (nI_nle hl (by omega)) ?_
      refine vx_base hF2 hB ?_
      rw [pk_sub hb]
      refine pk_eq (S.length - vl_base F) 1 ?_ ?_ rfl rfl (by omega) (by omega)
      · intro e
        refine vx_stands (i := 0) (w := 1) (by omega) (by omega) h6 hF2 hS hB h12 hb ?_ ?_
        · intro q1; exact br_f (by decide) (h1 ⟨hF, by omega, q1⟩)
        · intro q1; exact br_t rfl (h0 (fun q => q1 q.2.2))
      · intro e; exact h0 (fun q => by have := q.2.1; omega)
theorem vx_room {post : Int32 → Prop} {k : Nat} (hk : k < 22) (h6 : S.length ≤ 6) (hF2 : F.length ≤ 2) (h1 : vl_rm k (S, F) → post 1) (h0 : ¬ vl_rm k (S, F) → post 0) : wpX_hasRoom post (tc, nI S.length, nI F.length, vc, nt, lc, ic, iz, ki, op, so, bb, vC, vS, lC, lS, lP, lK, lT, mC, mS) (nI k) := by
  unfold wpX_hasRoom
  have tn : ∀ Q : Int32 → Prop, (k < 3 → Q 1) → (¬ k < 3 → Q 0) → wpX_takesNothing Q (tc, nI S.length, nI F.length, vc, nt, lc, ic, iz, ki, op, so, bb, vC, vS, lC, lS, lP, lK, lT, mC, mS) (nI k) := by
    intro Q g1 g0
    unfold wpX_takesNothing
    exact pk_eq k 0 (fun e => g1 (by omega)) (fun e => pk_eq k 1 (fun e2 => g1 (by omega)) (fun e2 => pk_eq k 2 (fun e3 => g1 (by omega)) (fun e3 => g0 (by omega))))
  refine tn _ ?_ ?_
  · intro h3
    refine br_f (by decide) ?_
    refine pk_le 6 S.length ?_ ?_ rfl rfl (by omega) (by omega)
    · intro e; exact h0 (fun q => by have : S.length < 6 := q.1 h3; omega)
    · intro e; exact h1 ⟨fun _ => e, fun w => by omega⟩
  · intro h3
    refine br_t rfl ?_
    refine vx_bb hk ?_ ?_
    · intro hb
      refine br_f (by decide) ?_
      refine pk_le 2 F.length ?_ ?_ rfl rfl (by omega) (by omega)
      · intro e; exact h0 (fun q => by have : F.length < 2 := q.2 hb; omega)
      · intro e; exact h1 ⟨fun w => absurd w h3, fun _ => e⟩
    · intro hb
      exact br_t rfl (h1 ⟨fun w => absurd w h3, fun w => absurd w hb⟩)
/-- kind and operand are those of a token -/
def vl_good (a b : Int32) : Prop := ¬ a < 0 ∧ a ≤ 21 ∧ (a = 0 → ¬ b < -99 ∧ ¬ 99 < b) ∧ (a = 1 → ¬ b < 0 ∧ b ≤ 2)
theorem vl_32 {b : Int32} : b ≤ 2 ↔ ¬ 3 ≤ b := by
  have h2 : (2 : Int32).toInt = 2 := by decide
  have h3 : (3 : Int32).toInt = 3 := by decide
  rw [Int32.le_iff_toInt_le, Int32.le_iff_toInt_le, h2, h3]
  omega
theorem vx_isInput {post : Int32 → Prop} {b : Int32} (h1 : ¬ b < 0 → b ≤ 2 → post 1) (h0 : (b < 0 ∨ ¬ b ≤ 2) → post 0) : wpX_isInput post (tc, sc, ob, vc, nt, lc, ic, iz, ki, op, so, bb, vC, vS, lC, lS, lP, lK, lT, mC, mS) b := by
  unfold wpX_isInput
  refine br_c (fun z => h0 (Or.inl z)) (fun z => br_c (fun z2 => h0 (Or.inr (fun w => vl_32.mp w z2))) (fun z2 => h1 z (vl_32.mpr z2)))
theorem vx_isTok {post : Int32 → Prop} {a b : Int32} (h1 : vl_good a b → post 1) (h0 : ¬ vl_good a b → post 0) : wpX_isToken post (tc, sc, ob, vc, nt, lc, ic, iz, ki, op, so, bb, vC, vS, lC, lS, lP, lK, lT, mC, mS) a b := by
  unfold wpX_isToken
  refine br_c (fun z => h0 (fun q => q.1 z)) (fun z => br_c (fun z2 => br_c (fun e0 => br_c ?_ (fun z3 => br_c ?_ ?_)) (fun e0 => br_c (fun e1 => ?_) (fun e1 => ?_))) (fun z2 => h0 (fun q => z2 q.2.1)))
  · intro z3; exact h0 (fun q => (q.2.2.1 e0).1 z3)
  · intro z4; exact h0 (fun q => (q.2.2.1 e0).2 z4)
  · intro z4; exact h1 ⟨z, z2, fun _ => ⟨z3, z4⟩, fun e1 => absurd (e0.symm.trans e1) (by decide)⟩
  · refine vx_isInput ?_ ?_
    · intro w1 w2; exact ⟨rfl, h1 ⟨z, z2, fun e => absurd e e0, fun _ => ⟨w1, w2⟩⟩⟩
    · intro w; refine ⟨rfl, h0 (fun q => ?_)⟩
      obtain ⟨w1, w2⟩ := q.2.2.2 e1
      rcases w with w | w
      · exact w1 w
      · exact w w2
  · exact h1 ⟨z, z2, fun e => absurd e e0, fun e => absurd e e1⟩
