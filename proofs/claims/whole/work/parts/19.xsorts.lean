/-! part 19: the component's sorts -/
variable {tc sc ob vc nt lc : Int32} {ic iz ki op so bb vC vS lC lS lP lK lT mC mS : Nat → Int32} {K : Nat → Nat} {S F R : List Nat}
theorem vl_sti {a b : Nat} (ha : a < 2 ^ 30) (hb : b < 2 ^ 30) : (nI a - nI b).toInt = (a : Int) - b := by
  rw [Int32.toInt_sub, nI_toInt (by omega), nI_toInt (by omega)]
  exact Int.bmod_eq_of_le (by omega) (by omega)
theorem vl_s1 (h i : Nat) : nI h - 1 - nI i = nI h - nI (i + 1) := by
  rw [← nI_1]
  grind
theorem vl_cmp {h i b : Nat} (hh : h < 1000) (hi : i < 1000) (hb : b < 1000) : nI h - 1 - nI i < nI b ↔ h < b + i + 1 := by
  rw [vl_s1, Int32.lt_iff_toInt_lt, vl_sti (by omega) (by omega), nI_toInt (by omega)]
  omega
theorem vx_how {post : Int32 → Prop} {k : Nat} (hk : k < 22) (hp : post (nI (vl_nd k).length)) : wpX_howManyTaken post (tc, sc, ob, vc, nt, lc, ic, iz, ki, op, so, bb, vC, vS, lC, lS, lP, lK, lT, mC, mS) (nI k) := by
  have c : k = 0 ∨ k = 1 ∨ k = 2 ∨ k = 3 ∨ k = 4 ∨ k = 5 ∨ k = 6 ∨ k = 7 ∨ k = 8 ∨ k = 9 ∨ k = 10 ∨ k = 11 ∨ k = 12 ∨ k = 13 ∨ k = 14 ∨ k = 15 ∨ k = 16 ∨ k = 17 ∨ k = 18 ∨ k = 19 ∨ k = 20 ∨ k = 21 := by omega
  unfold wpX_howManyTaken
  rcases c with rfl | rfl | rfl | rfl | rfl | rfl | rfl | rfl | rfl | rfl | rfl | rfl | rfl | rfl | rfl | rfl | rfl | rfl | rfl | rfl | rfl | rfl
  · refine br_f (by decide) (br_f (by decide) (br_t (by decide) ?_))
    exact hp
  · refine br_f (by decide) (br_f (by decide) (br_f (by decide) (br_t (by decide) ?_)))
    exact hp
  · refine br_f (by decide) (br_f (by decide) (br_f (by decide) (br_f (by decide) (br_t (by decide) ?_))))
    exact hp
  · refine br_f (by decide) (br_f (by decide) (br_f (by decide) (br_f (by decide) (br_f (by decide) (br_t (by decide) ?_)))))
    exact hp
  · refine br_f (by decide) (br_f (by decide) (br_f (by decide) (br_f (by decide) (br_f (by decide) (br_f (by decide) (br_t (by decide) ?_))))))
    exact hp
  · refine br_f (by decide) (br_f (by decide) (br_f (by decide) (br_f (by decide) (br_f (by decide) (br_f (by decide) (br_f (by decide) (br_t (by decide) ?_)))))))
    exact hp
  · refine br_f (by decide) (br_f (by decide) (br_f (by decide) (br_f (by decide) (br_f (by decide) (br_f (by decide) (br_f (by decide) (br_f (by decide) (br_t (by decide) ?_))))))))
    exact hp
  · refine br_f (by decide) (br_f (by decide) (br_f (by decide) (br_f (by decide) (br_f (by decide) (br_f (by decide) (br_f (by decide) (br_f (by decide) (br_f (by decide) (br_t (by decide) ?_)))))))))
    exact hp
  · refine br_f (by decide) (br_f (by decide) (br_f (by decide) (br_f (by decide) (br_f (by decide) (br_f (by decide) (br_f (by decide) (br_f (by decide) (br_f (by decide) (br_f (by decide) (br_t (by decide) ?_))))))))))
    exact hp
  · refine br_f (by decide) (br_f (by decide) (br_f (by decide) (br_f (by decide) (br_f (by decide) (br_f (by decide) (br_f (by decide) (br_f (by decide) (br_f (by decide) (br_f (by decide) (br_f (by decide) (br_t (by decide) ?_)))))))))))
    exact hp
  · refine br_f (by decide) (br_f (by decide) (br_f (by decide) (br_f (by decide) (br_f (by decide) (br_f (by decide) (br_f (by decide) (br_f (by decide) (br_f (by decide) (br_f (by decide) (br_f (by decide) (br_f (by decide) (br_t (by decide) ?_))))))))))))
    exact hp
  · refine br_f (by decide) (br_f (by decide) (br_f (by decide) (br_f (by decide) (br_f (by decide) (br_f (by decide) (br_f (by decide) (br_f (by decide) (br_f (by decide) (br_f (by decide) (br_f (by decide) (br_f (by decide) (br_f (by decide) (br_t (by decide) ?_)))))))))))))
    exact hp
  · refine br_f (by decide) (br_f (by decide) (br_f (by decide) (br_f (by decide) (br_f (by decide) (br_f (by decide) (br_f (by decide) (br_f (by decide) (br_f (by decide) (br_f (by decide) (br_f (by decide) (br_f (by decide) (br_f (by decide) (br_f (by decide) (br_t (by decide) ?_))))))))))))))
    exact hp
  · refine br_f (by decide) (br_f (by decide) (br_f (by decide) (br_f (by decide) (br_f (by decide) (br_f (by decide) (br_f (by decide) (br_f (by decide) (br_f (by decide) (br_f (by decide) (br_f (by decide) (br_f (by decide) (br_f (by decide) (br_f (by decide) (br_f (by decide) (br_t (by decide) ?_)))))))))))))))
    exact hp
  · refine br_f (by decide) (br_f (by decide) (br_f (by decide) (br_f (by decide) (br_f (by decide) (br_f (by decide) (br_f (by decide) (br_f (by decide) (br_f (by decide) (br_f (by decide) (br_f (by decide) (br_f (by decide) (br_f (by decide) (br_f (by decide) (br_f (by decide) (br_f (by decide) (br_t (by decide) ?_))))))))))))))))
    exact hp
  · refine br_f (by decide) (br_f (by decide) (br_f (by decide) (br_f (by decide) (br_f (by decide) (br_f (by decide) (br_f (by decide) (br_f (by decide) (br_f (by decide) (br_f (by decide) (br_f (by decide) (br_f (by decide) (br_f (by decide) (br_f (by decide) (br_f (by decide) (br_f (by decide) (br_f (by decide) (br_t (by decide) ?_)))))))))))))))))
    exact hp
  · exact br_f (by decide) (br_t (by decide) hp)
  · exact br_f (by decide) (br_t (by decide) hp)
  · exact br_f (by decide) (br_t (by decide) hp)
  · exact br_f (by decide) (br_t (by decide) hp)
  · exact br_f (by decide) (br_t (by decide) hp)
  · exact br_f (by decide) (br_t (by decide) hp)
theorem vx_given {post : Int32 → Prop} {k : Nat} (hk : k < 22) (hp : post (nI (vl_gr k))) : wpX_sortGiven post (tc, sc, ob, vc, nt, lc, ic, iz, ki, op, so, bb, vC, vS, lC, lS, lP, lK, lT, mC, mS) (nI k) := by
  unfold wpX_sortGiven
  refine pk_eq k 1 (fun h => ?_) (fun h => pk_lt k 14 (fun h2 => ?_) (fun h2 => ?_))
  · rw [show vl_gr k = 2 by unfold vl_gr; rw [if_pos (Or.inl h)]] at hp; exact hp
  · rw [show vl_gr k = 1 by unfold vl_gr; rw [if_neg (by omega)]] at hp; exact hp
  · rw [show vl_gr k = 2 by unfold vl_gr; rw [if_pos (Or.inr h2)]] at hp; exact hp
theorem vx_62 {post : SX → Prop} {k : Nat} (hk : k < 22) (hl : R.length < 6) (hp : post (tc, nI (R.length + 1), ob, vc, nt, lc, ic, iz, ki, op, upd so R.length (nI (vl_gr k)), bb, vC, vS, lC, lS, lP, lK, lT, mC, mS)) : wX_changeSorts_62 post (nI k) tc (nI R.length) ob vc nt lc ic iz ki op so bb vC vS lC lS lP lK lT mC mS := by
  unfold wX_changeSorts_62
  refine vx_given hk ?_
  simp (disch := omega) only [nI_clamp, vl_in, forall_eq, true_and, nI_1]
  exact hp
theorem vx_change {post : SX → Prop} {k : Nat} (hk : k < 22) (hf : vl_fd k (S, F)) (hr : vl_rm k (S, F)) (h6 : S.length ≤ 6) (hF2 : F.length ≤ 2) (hS : vl_xT nI so S) (hB : vl_xT nI bb F)
    (hp : ∀ a b, vl_xT nI a (vl_ss k (S, F)).1 → vl_xT nI b (vl_ss k (S, F)).2 → post (tc, nI (vl_ss k (S, F)).1.length, nI (vl_ss k (S, F)).2.length, vc, nt, lc, ic, iz, ki, op, a, b, vC, vS, lC, lS, lP, lK, lT, mC, mS)) : wpX_changeSorts post (tc, nI S.length, nI F.length, vc, nt, lc, ic, iz, ki, op, so, bb, vC, vS, lC, lS, lP, lK, lT, mC, mS) (nI k) := by
  obtain ⟨R, e, hb, g1, g2, g3⟩ := vl_ss_ok hf
  obtain ⟨r1, r2⟩ := hr
  have el : S.length = (vl_nd k).length + R.length := by rw [e, List.length_append]
  have hSR : vl_xT nI so R := by rw [e] at hS; exact vl_xT_drop hS
  have hR6 : R.length < 6 := by
    by_cases h3 : k < 3
    · have : S.length < 6 := r1 h3
      omega
    · have := vl_nd1 (k := k) (by omega)
      omega
  unfold wpX_changeSorts
  refine vx_how hk ?_
  refine nm_r (e' := nI R.length) (by rw [el, Nat.add_comm, pk_sub (by omega), Nat.add_sub_cancel]) ?_
  refine vx_bb hk ?_ ?_
  · intro hk2
    rw [g1 hk2] at hp
    have hF : F.length < 2 := r2 hk2
    refine br_f (by decide) ⟨vp_in_nI hF (by decide), ?_⟩
    rw [nI_clamp (by omega)]
    exact nm_e (nm_r (nI_1 _) (hp _ _ hSR (vl_xT_put hB rfl)))
  · intro hk2
    rw [g2 hk2] at hp
    refine br_t rfl ?_
    refine pk_eq k 21 ?_ ?_
    · intro h21
      rw [if_pos h21] at hp
      obtain ⟨q1, q2⟩ := g3 h21
      cases F with
      | nil => exact absurd rfl q1
      | cons x F =>
        refine nm_r (nI_pred _) ?_
        refine vx_62 hk hR6 ?_
        exact hp _ _ (vl_xT_put hSR rfl) hB.2
    · intro h21
      rw [if_neg h21] at hp
      refine vx_62 hk hR6 ?_
      exact hp _ _ (vl_xT_put hSR rfl) hB
theorem vx_rebuild {post : SX → Prop} {n : Nat} (h : vl_PG K op n) (hn40 : n ≤ 40) (hK : ∀ t, t < n → ki t = nI (K t))
    (hp : ∀ a b, vl_xT nI a (vl_st K n).1 → vl_xT nI b (vl_st K n).2 → post (nI n, nI (vl_st K n).1.length, nI (vl_st K n).2.length, vc, nt, lc, ic, iz, ki, op, a, b, vC, vS, lC, lS, lP, lK, lT, mC, mS)) : wpX_rebuildSorts post (nI n, sc, ob, vc, nt, lc, ic, iz, ki, op, so, bb, vC, vS, lC, lS, lP, lK, lT, mC, mS) := by
  have H : ∀ d t so bb, t + d = n → vl_xT nI so (vl_st K t).1 → vl_xT nI bb (vl_st K t).2 → wX_rebuildSorts_17 post (nI n) (d + 1) (nI t) (nI n) (nI (vl_st K t).1.length) (nI (vl_st K t).2.length) vc nt lc ic iz ki op so bb vC vS lC lS lP lK lT mC mS := by
    intro d
    induction d with
    | zero =>
      intro t so bb ht h1 h2
      have : t = n := by omega
      subst this
      exact br_t (nI_le (Nat.le_refl _) (by omega)) (hp _ _ h1 h2)
    | succ d ih =>
      intro t so bb ht h1 h2
      obtain ⟨o1, o2, o3, -⟩ := h t (by omega)
      obtain ⟨b1, b2⟩ := vl_bd h t (by omega)
      refine br_f (nI_ge (by omega) (by omega)) ⟨vp_in_nI (by omega) (by decide), ?_⟩
      rw [nI_clamp (by omega), hK t (by omega)]
      refine vx_change (S := (vl_st K t).1) (F := (vl_st K t).2) o1 o2 o3 b1 b2 h1 h2 ?_
      intro a b q1 q2
      exact nm_r (nI_1 _) (ih (t + 1) a b (by omega) q1 q2)
  unfold wpX_rebuildSorts
  exact ⟨n + 1, H n 0 so bb (by omega) True.intro True.intro⟩
theorem vl_getD12 : ∀ {S : List Nat} {i : Nat}, (∀ x, x ∈ S → x = 1 ∨ x = 2) → i < S.length → S.getD i 0 = 1 ∨ S.getD i 0 = 2 := by
  intro S
  induction S with
  | nil => intro i _ hi; exact absurd hi (by show ¬ i < 0; omega)
  | cons x S ih =>
    intro i h hi
    cases i with
    | zero => exact h x (List.mem_cons_self ..)
    | succ i => exact ih (fun y hy => h y (List.mem_cons_of_mem _ hy)) (by rw [List.length_cons] at hi; omega)
theorem vx_base {post : Int32 → Prop} (hF2 : F.length ≤ 2) (hB : vl_xT nI bb F) (hp : post (nI (vl_base F))) : wpX_innermostBase post (tc, sc, nI F.length, vc, nt, lc, ic, iz, ki, op, so, bb, vC, vS, lC, lS, lP, lK, lT, mC, mS) := by
  unfold wpX_innermostBase
  cases F with
  | nil => exact br_t rfl hp
  | cons x F =>
    rw [List.length_cons] at hF2 ⊢
    refine br_f (nI_ne0 (by omega) (by omega)) ?_
    rw [nI_pred, nI_clamp (by omega)]
    refine ⟨vp_in_nI (by omega) (by decide), ?_⟩
    rw [hB.1]
    exact hp
theorem vx_stands {post : Int32 → Prop} {i w : Nat} (hi : i < 3) (hw : w < 3) (h6 : S.length ≤ 6) (hF2 : F.length ≤ 2) (hS : vl_xT nI so S) (hB : vl_xT nI bb F) (h12 : ∀ x, x ∈ S → x = 1 ∨ x = 2) (hb : vl_base F ≤ S.length)
    (h1 : vl_sd S F i w → post 1) (h0 : ¬ vl_sd S F i w → post 0) : wpX_stands post (tc, nI S.length, nI F.length, vc, nt, lc, ic, iz, ki, op, so, bb, vC, vS, lC, lS, lP, lK, lT, mC, mS) (nI i) (nI w) := by
  unfold wpX_stands
  refine nm_e ?_
  refine vx_base hF2 hB ?_
  refine br_c ?_ ?_
  · intro z
    rw [vl_cmp (by omega) (by omega) (by omega)] at z
    exact h0 (fun q => by have := q.1; omega)
  · intro z
    rw [vl_cmp (by omega) (by omega) (by omega)] at z
    have e : nI S.length - 1 - nI i = nI (S.length - 1 - i) := by
      rw [vl_s1, pk_sub (by omega)]
      exact congrArg nI (by omega)
    have hx : S.getD i 0 < 3 := by
      have := vl_getD12 h12 (i := i) (by omega)
      omega
    rw [e, nI_clamp (by omega), vl_xT_get hS (by omega)]
    refine ⟨vp_in_nI (by omega) (by decide), pk_eq (S.getD i 0) w ?_ ?_ rfl rfl (by omega) (by omega)⟩
    · intro q; exact h1 ⟨by omega, q⟩
    · intro q; exact h0 (fun q2 => q q2.2)
