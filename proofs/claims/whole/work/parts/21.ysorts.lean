/-! part 21: the reference's sorts, and what it finds -/
variable {cn hg oc tp dp : Int32} {sz inq kq aq ra fl ln va bg mn rs el os ou : Nat → Int32} {K : Nat → Nat} {S F R : List Nat}
theorem vl_ytk_nd {k : Nat} (hk : k < 21) : vl_ytk k = (vl_nd k).length := by
  have c : k = 0 ∨ k = 1 ∨ k = 2 ∨ k = 3 ∨ k = 4 ∨ k = 5 ∨ k = 6 ∨ k = 7 ∨ k = 8 ∨ k = 9 ∨ k = 10 ∨ k = 11 ∨ k = 12 ∨ k = 13 ∨ k = 14 ∨ k = 15 ∨ k = 16 ∨ k = 17 ∨ k = 18 ∨ k = 19 ∨ k = 20 := by omega
  rcases c with rfl | rfl | rfl | rfl | rfl | rfl | rfl | rfl | rfl | rfl | rfl | rfl | rfl | rfl | rfl | rfl | rfl | rfl | rfl | rfl | rfl <;> rfl
theorem vl_nb0 : vp_nar .boolean 0 = 0 := by decide
theorem vl_nb1 : vp_nar .boolean 1 = 1 := by decide
theorem vl_yb_nar (x : Nat) : vp_nar .boolean (vl_yb x) = vl_yb x := by
  unfold vl_yb
  split
  · exact vl_nb1
  · exact vl_nb0
theorem vy_gives {post : Int32 → Prop} {k : Nat} (hk : k < 22) (hp : post (vl_yb (vl_gr k))) : wpY_givesRow post (cn, hg, oc, tp, dp, sz, inq, kq, aq, ra, fl, ln, va, bg, mn, rs, el, os, ou) (nI k) := by
  unfold wpY_givesRow
  refine pk_eq k 1 (fun h => ?_) (fun h => pk_lt k 14 (fun h2 => ?_) (fun h2 => ?_))
  · rw [show vl_gr k = 2 by unfold vl_gr; rw [if_pos (Or.inl h)]] at hp; exact hp
  · rw [show vl_gr k = 1 by unfold vl_gr; rw [if_neg (by omega)]] at hp; exact hp
  · rw [show vl_gr k = 2 by unfold vl_gr; rw [if_pos (Or.inr h2)]] at hp; exact hp
theorem vy_check {post : SY → Prop} {n : Nat} (h : vl_PG K aq n) (hn40 : n ≤ 40) (hK : ∀ t, t < n → kq t = nI (K t))
    (hp : ∀ a b, vl_xT vl_yb a (vl_st K n).1 → vl_xT nI b (vl_st K n).2 → post (nI n, nI (vl_st K n).1.length, nI (vl_st K n).2.length, tp, dp, sz, inq, kq, aq, a, b, ln, va, bg, mn, rs, el, os, ou)) : wpY_check post (nI n, hg, oc, tp, dp, sz, inq, kq, aq, ra, fl, ln, va, bg, mn, rs, el, os, ou) := by
  have H : ∀ d t ra fl, t + d = n → vl_xT vl_yb ra (vl_st K t).1 → vl_xT nI fl (vl_st K t).2 → wY_check_12 post (nI n) tp dp (d + 1) (nI t) (nI (vl_st K t).1.length) (nI (vl_st K t).2.length) sz inq kq aq ra fl ln va bg mn rs el os ou := by
    intro d
    induction d with
    | zero =>
      intro t ra fl ht h1 h2
      have : t = n := by omega
      subst this
      exact br_t (nI_le (Nat.le_refl _) (by omega)) (hp _ _ h1 h2)
    | succ d ih =>
      intro t ra fl ht h1 h2
      obtain ⟨o1, o2, ⟨r1, r2⟩, -⟩ := h t (by omega)
      obtain ⟨b1, b2⟩ := vl_bd h t (by omega)
      have ih' := ih (t + 1)
      rw [vl_st_s] at ih'
      rcases hst : vl_st K t with ⟨S, F⟩
      rw [hst] at h1 h2 o2 r1 r2 b1 b2 ih'
      change vl_xT vl_yb ra S at h1
      change vl_xT nI fl F at h2
      change S.length ≤ 6 at b1
      change F.length ≤ 2 at b2
      obtain ⟨R, e, hb, g1, g2, g3⟩ := vl_ss_ok o2
      have eL : S.length = (vl_nd (K t)).length + R.length := by rw [e, List.length_append]
      have hSR : vl_xT vl_yb ra R := by rw [e] at h1; exact vl_xT_drop h1
      have hR6 : R.length < 6 := by
        by_cases h3 : K t < 3
        · have : S.length < 6 := r1 h3
          omega
        · have := vl_nd1 (k := K t) (by omega)
          omega
      have et : (nI t).toNatClampNeg = t := nI_clamp (by omega)
      refine br_f (nI_ge (by omega) (by omega)) ⟨vp_in_nI (by omega) (by decide), ?_⟩
      rw [et, hK t (by omega)]
      refine nm_e ?_
      show wpY_takes _ _ (nI (K t))
      by_cases k1 : K t = 19 ∨ K t = 20
      · rw [g1 k1] at ih'
        have hF : F.length < 2 := r2 k1
        refine vy_takes o1 (vl_ytk_nd (by omega)) ?_
        refine nm_r (e' := nI R.length) (by show nI S.length - _ = _; rw [eL, Nat.add_comm, pk_sub (by omega), Nat.add_sub_cancel]) ?_
        have go : wY_check_53 post (wY_check_12 post (nI n) tp dp (d + 1)) (nI t) (nI n) (nI R.length) (nI F.length) tp dp sz inq kq aq ra fl ln va bg mn rs el os ou := by
          unfold wY_check_53
          rw [nI_clamp (by omega)]
          exact ⟨vp_in_nI hF (by decide), nm_e (nm_r (nI_1 _) (nm_r (nI_1 _) (ih' _ _ (by omega) hSR (vl_xT_put h2 rfl))))⟩
        refine pk_eq (K t) 19 (fun _ => go) (fun k3 => pk_eq (K t) 20 (fun _ => go) (fun k4 => ?_) rfl rfl (by omega) (by omega)) rfl rfl (by omega) (by omega)
        omega
      · rw [g2 k1] at ih'
        have hne : ∀ c : Nat, c < 22 → K t ≠ c → ¬ nI (K t) = nI c := fun c hc hx z => hx ((nI_eq (by omega) (by omega)).mp z)
        by_cases k2 : K t = 21
        · rw [if_pos k2, k2] at ih'
          obtain ⟨q1, q2⟩ := g3 k2
          have en : (vl_nd (K t)).length = 1 := by rw [k2]; rfl
          refine vy_takes (t := 0) o1 (by rw [k2]; rfl) ?_
          refine nm_r (e' := nI (R.length + 1)) (by show nI S.length - nI 0 = _; rw [pk_sub (by omega)]; exact congrArg nI (by omega)) ?_
          refine br_f (hne 19 (by omega) (by omega)) (br_f (hne 20 (by omega) (by omega)) (br_t (by rw [k2]; rfl) ?_))
          cases F with
          | nil => exact absurd rfl q1
          | cons x F =>
            refine nm_r (nI_pred _) ?_
            rw [nI_pred, nI_clamp (by omega), vl_nb1]
            exact ⟨vp_in_nI hR6 (by decide), nm_e (nm_r (nI_1 _) (ih' _ _ (by omega) (vl_xT_put hSR rfl) h2.2))⟩
        · rw [if_neg k2] at ih'
          refine vy_takes o1 (vl_ytk_nd (by omega)) ?_
          refine nm_r (e' := nI R.length) (by show nI S.length - _ = _; rw [eL, Nat.add_comm, pk_sub (by omega), Nat.add_sub_cancel]) ?_
          refine br_f (hne 19 (by omega) (by omega)) (br_f (hne 20 (by omega) (by omega)) (br_f (hne 21 (by omega) (by omega)) ?_))
          refine vy_gives o1 ?_
          rw [nI_clamp (by omega), vl_yb_nar]
          exact ⟨vp_in_nI hR6 (by decide), nm_e (nm_r (nI_1 _) (nm_r (nI_1 _) (ih' _ _ (by omega) (vl_xT_put hSR rfl) h2)))⟩
  unfold wpY_check
  exact ⟨n + 1, H n 0 ra fl (by omega) True.intro True.intro⟩
/-- which sort the reference wants at its k-th place (from below) -/
def vl_wr (k j : Nat) : Nat := if k = 13 then (if j = 0 then 2 else 1) else if k ≤ 9 then 1 else if k = 14 then 1 else 2
theorem vy_wants {post : Int32 → Prop} {k j : Nat} (hk : k < 22) (hj : j < 10) (hp : post (vl_yb (vl_wr k j))) : wpY_wantsRow post (cn, hg, oc, tp, dp, sz, inq, kq, aq, ra, fl, ln, va, bg, mn, rs, el, os, ou) (nI k) (nI j) := by
  unfold wpY_wantsRow
  unfold vl_wr at hp
  refine pk_eq k 13 (fun h => ?_) (fun h => pk_le k 9 (fun h2 => ?_) (fun h2 => pk_eq k 14 (fun h3 => ?_) (fun h3 => ?_)))
  · rw [if_pos h] at hp
    refine pk_eq j 0 (fun e => ?_) (fun e => ?_)
    · rw [if_pos e] at hp; exact hp
    · rw [if_neg e] at hp; exact hp
  · rw [if_neg h, if_pos h2] at hp; exact hp
  · rw [if_neg h, if_neg (by omega), if_pos h3] at hp; exact hp
  · rw [if_neg h, if_neg (by omega), if_neg h3] at hp; exact hp
theorem vl_q1 {W : Nat → Nat} : vl_sd S F 0 (W 0) ↔ (vl_base F + 1 ≤ S.length ∧ ∀ i, i < 1 → S.getD (1 - 1 - i) 0 = W i) := by
  constructor
  · rintro ⟨h1, h2⟩
    refine ⟨by omega, fun i hi => ?_⟩
    have : i = 0 := by omega
    subst this
    exact h2
  · rintro ⟨h1, h2⟩
    exact ⟨by omega, h2 0 (by omega)⟩
theorem vl_q2 {W : Nat → Nat} : (vl_sd S F 0 (W 1) ∧ vl_sd S F 1 (W 0)) ↔ (vl_base F + 2 ≤ S.length ∧ ∀ i, i < 2 → S.getD (2 - 1 - i) 0 = W i) := by
  constructor
  · rintro ⟨⟨h1, h2⟩, ⟨h3, h4⟩⟩
    refine ⟨by omega, fun i hi => ?_⟩
    have : i = 0 ∨ i = 1 := by omega
    rcases this with rfl | rfl
    · exact h4
    · exact h2
  · rintro ⟨h1, h2⟩
    exact ⟨⟨by omega, h2 1 (by omega)⟩, ⟨by omega, h2 0 (by omega)⟩⟩
theorem vl_q3 {W : Nat → Nat} : (vl_sd S F 0 (W 2) ∧ vl_sd S F 1 (W 1) ∧ vl_sd S F 2 (W 0)) ↔ (vl_base F + 3 ≤ S.length ∧ ∀ i, i < 3 → S.getD (3 - 1 - i) 0 = W i) := by
  constructor
  · rintro ⟨⟨h1, h2⟩, ⟨h3, h4⟩, ⟨h5, h6⟩⟩
    refine ⟨by omega, fun i hi => ?_⟩
    have : i = 0 ∨ i = 1 ∨ i = 2 := by omega
    rcases this with rfl | rfl | rfl
    · exact h6
    · exact h4
    · exact h2
  · rintro ⟨h1, h2⟩
    exact ⟨⟨by omega, h2 2 (by omega)⟩, ⟨by omega, h2 1 (by omega)⟩, ⟨by omega, h2 0 (by omega)⟩⟩
theorem vl_fd_y {k : Nat} (hk : k < 21) (hb : vl_base F ≤ S.length) : vl_fd k (S, F) ↔ (vl_base F + vl_ytk k ≤ S.length ∧ ∀ i, i < vl_ytk k → S.getD (vl_ytk k - 1 - i) 0 = vl_wr k i) := by
  have c : k < 3 ∨ (3 ≤ k ∧ k < 9) ∨ k = 9 ∨ k = 13 ∨ k = 14 ∨ k = 15 ∨ (k = 10 ∨ k = 11 ∨ k = 12 ∨ k = 16 ∨ k = 17 ∨ k = 18 ∨ k = 19 ∨ k = 20) := by omega
  rcases c with c | ⟨c1, c2⟩ | rfl | rfl | rfl | rfl | c
  · have e : vl_ytk k = 0 := by unfold vl_ytk; rw [if_pos c]
    rw [e]
    exact iff_of_true (vl_fd_0 c hb) ⟨hb, fun i hi => by omega⟩
  · have e : vl_ytk k = 2 := by unfold vl_ytk; rw [if_neg (by omega), if_neg (by omega), if_neg (by omega), if_pos c2]
    have e2 : ∀ j, vl_wr k j = 1 := by intro j; unfold vl_wr; rw [if_neg (by omega), if_pos (by omega)]
    rw [e, vl_fd_nn c1 c2, ← vl_q2 (W := vl_wr k), e2, e2]
  · rw [vl_fd_9]; exact vl_q3 (W := vl_wr 9)
  · rw [vl_fd_13]; exact vl_q2 (W := vl_wr 13)
  · rw [vl_fd_14]; exact vl_q1 (W := vl_wr 14)
  · rw [vl_fd_15]; exact vl_q2 (W := vl_wr 15)
  · have e : vl_ytk k = 1 := by rcases c with rfl | rfl | rfl | rfl | rfl | rfl | rfl | rfl <;> rfl
    have e2 : vl_wr k 0 = 2 := by rcases c with rfl | rfl | rfl | rfl | rfl | rfl | rfl | rfl <;> rfl
    rw [e, vl_fd_r c, ← vl_q1 (W := vl_wr k), e2]
theorem vl_yb_inj {x y : Nat} (hx : x = 1 ∨ x = 2) (hy : y = 1 ∨ y = 2) : vl_yb x = vl_yb y ↔ x = y := by
  rcases hx with rfl | rfl <;> rcases hy with rfl | rfl <;> decide
theorem vl_wr12 (k j : Nat) : vl_wr k j = 1 ∨ vl_wr k j = 2 := by
  unfold vl_wr
  repeat' split
  all_goals first | exact Or.inl rfl | exact Or.inr rfl
theorem vy_found90 {post : Int32 → Prop} {k m : Nat} (hk : k < 22) (hm : m ≤ S.length) (hm3 : m ≤ 3) (h6 : S.length ≤ 6) (hS : vl_xT vl_yb ra S) (h12 : ∀ x, x ∈ S → x = 1 ∨ x = 2) :
    ∀ d j, j + d = m → (post 0 → wY_isFound_90 post (nI k) (nI m) cn (nI S.length) oc tp dp sz inq kq aq ra fl ln va bg mn rs el os ou (d + 1) 0 (nI j)) ∧
      (((∀ i, j ≤ i → i < m → S.getD (m - 1 - i) 0 = vl_wr k i) → post 1) → (¬ (∀ i, j ≤ i → i < m → S.getD (m - 1 - i) 0 = vl_wr k i) → post 0) → wY_isFound_90 post (nI k) (nI m) cn (nI S.length) oc tp dp sz inq kq aq ra fl ln va bg mn rs el os ou (d + 1) 1 (nI j)) := by
  intro d
  induction d with
  | zero =>
    intro j hj
    refine ⟨fun hp => br_t (nI_le (by omega) (by omega)) ⟨rfl, hp⟩, fun h1 _ => br_t (nI_le (by omega) (by omega)) ⟨rfl, h1 (fun i h2 h3 => by omega)⟩⟩
  | succ d ih =>
    intro j hj
    obtain ⟨i0, i1⟩ := ih (j + 1) (by omega)
    refine ⟨fun hp => br_f (nI_ge (by omega) (by omega)) (br_t rfl (nm_r (nI_1 _) (i0 hp))), fun h1 h0 => ?_⟩
    refine br_f (nI_ge (by omega) (by omega)) (br_f (by decide) ?_)
    have e : nI S.length - nI m + nI j = nI (S.length - 1 - (m - 1 - j)) := by
      rw [pk_sub hm, nI_add]
      exact congrArg nI (by omega)
    rw [e, nI_clamp (by omega), vl_xT_get hS (by omega)]
    refine ⟨vp_in_nI (by omega) (by decide), ?_⟩
    refine vy_wants hk (by omega) ?_
    have hx := vl_getD12 h12 (i := m - 1 - j) (by omega)
    by_cases hq : S.getD (m - 1 - j) 0 = vl_wr k j
    · refine br_t ((vl_yb_inj hx (vl_wr12 k j)).mpr hq) (nm_r (nI_1 _) (i1 ?_ ?_))
      · intro w
        refine h1 (fun i q1 q2 => ?_)
        by_cases ei : i = j
        · subst ei; exact hq
        · exact w i (by omega) q2
      · intro w
        exact h0 (fun v => w (fun i q1 q2 => v i (by omega) q2))
    · refine br_f (fun z => hq ((vl_yb_inj hx (vl_wr12 k j)).mp z)) (nm_r (nI_1 _) (i0 ?_))
      exact h0 (fun v => hq (v j (by omega) (by omega)))
theorem vy_isFound {post : Int32 → Prop} {k : Nat} (hk : k < 22) (h6 : S.length ≤ 6) (hF2 : F.length ≤ 2) (hS : vl_xT vl_yb ra S) (hB : vl_xT nI fl F) (h12 : ∀ x, x ∈ S → x = 1 ∨ x = 2) (hb : vl_base F ≤ S.length)
    (h1 : vl_fd k (S, F) → post 1) (h0 : ¬ vl_fd k (S, F) → post 0) : wpY_isFound post (cn, nI S.length, nI F.length, tp, dp, sz, inq, kq, aq, ra, fl, ln, va, bg, mn, rs, el, os, ou) (nI k) := by
  have go : wY_isFound_22 post (nI k) (nI (vl_base F)) cn (nI S.length) (nI F.length) tp dp sz inq kq aq ra fl ln va bg mn rs el os ou := by
    unfold wY_isFound_22
    refine pk_eq k 21 ?_ ?_
    · intro e
      subst e
      rw [vl_fd_21] at h1 h0
      by_cases hF : F = []
      · subst hF
        exact br_t (by decide) (h0 (fun q => q.1 rfl))
      · have hl : 0 < F.length := List.length_pos_iff.mpr hF
        refine br_f (nI_nle hl (by omega)) ?_
        rw [nI_1]
        refine pk_eq S.length (vl_base F + 1) ?_ ?_ rfl rfl (by omega) (by omega)
        · intro e
          rw [vl_sub1 _ (by omega), nI_clamp (by omega), show S.length - 1 = S.length - 1 - 0 by omega, vl_xT_get hS (by omega)]
          refine ⟨vp_in_nI (by omega) (by decide), ?_⟩
          have hx := vl_getD12 h12 (i := 0) (by omega)
          have ey := vl_yb_inj hx (Or.inl rfl : (1 : Nat) = 1 ∨ (1 : Nat) = 2)
          refine br_c ?_ ?_
          · intro z; exact h1 ⟨hF, e, by omega, ey.mp z⟩
          · intro z; exact h0 (fun q => z (ey.mpr q.2.2.2))
        · intro e; exact h0 (fun q => e q.2.1)
    · intro e
      rw [vl_fd_y (by omega) hb] at h1 h0
      refine vy_takes hk rfl ?_
      rw [pk_sub hb]
      have h3 : vl_ytk k ≤ 3 := by
        unfold vl_ytk
        repeat' split
        all_goals omega
      refine pk_le (vl_ytk k) (S.length - vl_base F) ?_ ?_ rfl rfl (by omega) (by omega)
      · intro z
        refine ⟨vl_ytk k + 1, (vy_found90 hk (by omega) h3 h6 hS h12 (vl_ytk k) 0 (by omega)).2 ?_ ?_⟩
        · intro w; exact h1 ⟨by omega, fun i hi => w i (by omega) hi⟩
        · intro w; exact h0 (fun q => w (fun i _ hi => q.2 i hi))
      · intro z; exact h0 (fun q => by have := q.1; omega)
  unfold wpY_isFound
  cases F with
  | nil => exact br_t rfl go
  | cons x F =>
    rw [List.length_cons] at hF2 ⊢
    refine br_f (nI_ne0 (by omega) (by omega)) ?_
    rw [nI_pred, nI_clamp (by omega), hB.1]
    exact ⟨vp_in_nI (by omega) (by decide), go⟩
