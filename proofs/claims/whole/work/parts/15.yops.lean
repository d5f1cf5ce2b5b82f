/-! part 15: the reference's small methods -/
variable {cn hg oc tp dp : Int32} {sz inq kq aq ra fl ln va bg mn rs el os ou : Nat → Int32} {s : List vl_rw} {L : List vl_ln} {post : SY → Prop}
theorem vl_lt1 {c p : Nat} (hc : c < 2 ^ 30) (hp : p < 2 ^ 30) : nI c - 1 < nI p ↔ c ≤ p := by
  cases c with
  | zero =>
    have h1 : nI 0 - 1 < 0 := by decide
    exact iff_of_true (Int32.lt_of_lt_of_le h1 (nI_pos' (by omega))) (Nat.zero_le _)
  | succ c =>
    rw [nI_pred, nI_ltI (by omega) (by omega)]
    omega
theorem vy_push {v : Int32} {h : Nat} (hh : h < 7) (hp : post (cn, hg, oc, nI (h + 1), dp, sz, inq, kq, aq, ra, fl, upd ln h 1, upd va (8 * h) v, bg, mn, rs, el, os, ou)) : wpY_pushNumber post (cn, hg, oc, nI h, dp, sz, inq, kq, aq, ra, fl, ln, va, bg, mn, rs, el, os, ou) v := by
  unfold wpY_pushNumber
  simp (disch := omega) only [vl_8m, nI_clamp, vl_in, forall_eq, true_and, nI_1]
  exact hp
theorem vy_sum {post : Int32 → Prop} {f : Nat → Int32} {h c : Nat} (hh : h < 7) (hc : c ≤ 8) (hf : ∀ p, p < c → va (8 * h + p) = f p) (hp : post (vl_sm f c)) : wpY_sumUpTo post (cn, hg, oc, nI h, dp, sz, inq, kq, aq, ra, fl, ln, va, bg, mn, rs, el, os, ou) (nI c - 1) := by
  unfold wpY_sumUpTo
  refine ⟨c - 0 + 1, vl_acc (W := fun k p q => wY_sumUpTo_4 post (nI c - 1) cn hg oc (nI h) dp sz inq kq aq ra fl ln va bg mn rs el os ou k q (nI p)) (F := vl_sm f) (c := c) 0 (by omega) ?_ ?_⟩
  · intro k
    exact br_t ((vl_lt1 (by omega) (by omega)).mpr (Nat.le_refl _)) hp
  · intro k p _ hpc h3
    refine br_f (fun z => by have := (vl_lt1 (by omega) (by omega)).mp z; omega) ?_
    simp (disch := omega) only [vl_8m, nI_add, nI_clamp, vl_in, forall_eq, true_and, nI_1, hf p hpc]
    exact h3
theorem vy_most {post : Int32 → Prop} {f : Nat → Int32} {h c : Nat} (hh : h < 7) (hc : c ≤ 8) (hf : ∀ p, p < c → va (8 * h + p) = f p) (hp : post (vl_mx f c)) : wpY_most post (cn, hg, oc, nI h, dp, sz, inq, kq, aq, ra, fl, ln, va, bg, mn, rs, el, os, ou) (nI c) := by
  unfold wpY_most
  by_cases h0 : c = 0
  · subst h0
    refine br_t (by decide) ⟨1, ?_⟩
    exact br_t (by decide) hp
  · refine br_f (nI_nle (by omega) (by omega)) ?_
    have e0 : va (8 * h) = vl_mx f 1 := hf 0 (by omega)
    simp (disch := omega) only [vl_8m, nI_clamp, vl_in, forall_eq, true_and, e0]
    refine ⟨c - 1 + 1, vl_acc (W := fun k p q => wY_most_23 post (nI c) cn hg oc (nI h) dp sz inq kq aq ra fl ln va bg mn rs el os ou k q (nI p)) (F := vl_mx f) (c := c) 1 (by omega) ?_ ?_⟩
    · intro k
      exact br_t (nI_le (Nat.le_refl _) (by omega)) hp
    · intro k p hp1 hpc h3
      refine br_f (nI_ge hpc (by omega)) ?_
      simp (disch := omega) only [vl_8m, nI_add, nI_clamp, vl_in, forall_eq, true_and, nI_1, hf p hpc]
      cases p with
      | zero => omega
      | succ p =>
        have e1 : vl_mx f (p + 1 + 1) = if vl_mx f (p + 1) < f (p + 1) then f (p + 1) else vl_mx f (p + 1) := rfl
        by_cases hg : f (p + 1) ≤ vl_mx f (p + 1)
        · rw [e1, if_neg (Int32.not_lt.mpr hg)] at h3
          exact br_t hg h3
        · rw [e1, if_pos (Int32.not_le.mp hg)] at h3
          exact br_f hg h3
theorem vy_comb {post : Int32 → Prop} {k : Nat} {n m : Int32} (h3 : 3 ≤ k) (h9 : k < 9) (hp : post (vl_cm k n m)) : wpY_number post (cn, hg, oc, tp, dp, sz, inq, kq, aq, ra, fl, ln, va, bg, mn, rs, el, os, ou) (nI k) n m := by
  have c : k = 3 ∨ k = 4 ∨ k = 5 ∨ k = 6 ∨ k = 7 ∨ k = 8 := by omega
  unfold wpY_number
  rcases c with rfl | rfl | rfl | rfl | rfl | rfl
  · exact br_f (by decide) (br_f (by decide) (br_t (by decide) hp))
  · exact br_f (by decide) (br_f (by decide) (br_f (by decide) (br_t (by decide) hp)))
  · exact br_f (by decide) (br_f (by decide) (br_f (by decide) (br_f (by decide) (br_t (by decide) hp))))
  · have e : vl_cm 6 n m = if m = 0 then 0 else n / m := rfl
    rw [e] at hp
    refine br_f (by decide) (br_f (by decide) (br_f (by decide) (br_f (by decide) (br_f (by decide) (br_t (by decide) (br_c ?_ ?_))))))
    · intro z; rw [if_pos z] at hp; exact hp
    · intro z; rw [if_neg z] at hp; exact ⟨z, hp⟩
  · have e : vl_cm 7 n m = if n < m then 1 else 0 := rfl
    rw [e] at hp
    refine br_f (by decide) (br_f (by decide) (br_f (by decide) (br_f (by decide) (br_f (by decide) (br_f (by decide) (br_t (by decide) (br_c ?_ ?_)))))))
    · intro z; rw [if_neg (Int32.not_lt.mpr z)] at hp; exact hp
    · intro z; rw [if_pos (Int32.not_le.mp z)] at hp; exact hp
  · have e : vl_cm 8 n m = if n = m then 1 else 0 := rfl
    rw [e] at hp
    refine br_f (by decide) (br_t (by decide) (br_c ?_ ?_))
    · intro z; rw [if_pos z] at hp; exact hp
    · intro z; rw [if_neg z] at hp; exact hp
theorem vy_xch {h a b : Nat} (ha : 8 * h + a < 56) (hb : 8 * h + b < 56) (hp : post (cn, hg, oc, nI h, dp, sz, inq, kq, aq, ra, fl, ln, upd (upd va (8 * h + a) (va (8 * h + b))) (8 * h + b) (va (8 * h + a)), bg, mn, rs, el, os, ou)) : wpY_exchange post (cn, hg, oc, nI h, dp, sz, inq, kq, aq, ra, fl, ln, va, bg, mn, rs, el, os, ou) (nI a) (nI b) := by
  unfold wpY_exchange
  simp (disch := omega) only [vl_8m, nI_add, nI_clamp, vl_in, forall_eq, true_and]
  exact hp
theorem vy_turn {r : vl_rw} (hs : vl_xS va ln (r :: s)) (hl : s.length + 1 ≤ 6)
    (hp : ∀ C, vl_xS C ln ((r.1, fun p => r.2 (r.1 - 1 - p)) :: s) → post (cn, hg, oc, nI s.length, dp, sz, inq, kq, aq, ra, fl, ln, C, bg, mn, rs, el, os, ou)) : wpY_turn post (cn, hg, oc, nI s.length, dp, sz, inq, kq, aq, ra, fl, ln, va, bg, mn, rs, el, os, ou) (nI r.1) := by
  have hs0 := hs
  obtain ⟨⟨g1, g2, g3⟩, g4⟩ := hs
  unfold wpY_turn
  refine ⟨r.1 / 2 + 1, vl_turn (W := fun k p b => wY_turn_2 post (nI r.1) k (nI p) cn hg oc (nI s.length) dp sz inq kq aq ra fl ln (b) bg mn rs el os ou) (a := va) (o := 8 * s.length) (m := r.1) ?_ ?_⟩
  · intro k b h1 h2
    refine ⟨by decide, br_t (by rw [vl_d2 (by omega)]; exact nI_le (Nat.le_refl _) (by omega)) ?_⟩
    refine hp _ (vl_xS_top hs0 ?_ (fun j hj => h2 j (Or.inl hj)))
    intro p hpp
    rw [h1 p hpp]
    exact g3 _ (by omega)
  · intro k i b hi h3
    refine ⟨by decide, br_f (by rw [vl_d2 (by omega)]; exact nI_ge hi (by omega)) ?_⟩
    have e : nI r.1 - 1 - nI i = nI (r.1 - 1 - i) := by
      rw [vl_sub1 _ (by omega), pk_sub (by omega)]
    rw [e]
    refine vy_xch (by omega) (by omega) ?_
    exact nm_r (nI_1 i) h3
theorem vy_scan {r : vl_rw} (hs : vl_xS va ln (r :: s)) (hl : s.length + 1 ≤ 6)
    (hp : ∀ C, vl_xS C ln ((r.1, fun p => vl_sm r.2 (p + 1)) :: s) → post (cn, hg, oc, nI s.length, dp, sz, inq, kq, aq, ra, fl, ln, C, bg, mn, rs, el, os, ou)) : wpY_scan post (cn, hg, oc, nI s.length, dp, sz, inq, kq, aq, ra, fl, ln, va, bg, mn, rs, el, os, ou) (nI r.1) := by
  have hs0 := hs
  obtain ⟨⟨g1, g2, g3⟩, g4⟩ := hs
  unfold wpY_scan
  simp only [forall_eq]
  by_cases h0 : r.1 = 0
  · refine ⟨1, br_t (by rw [h0]; decide) ?_⟩
    exact hp _ (vl_xS_top hs0 (fun p hpp => by omega) (fun j hj => rfl))
  · have H : ∀ d b, d < r.1 → (∀ p, p ≤ d → b (8 * s.length + p) = r.2 p) → (∀ p, d < p → p < r.1 → b (8 * s.length + p) = vl_sm r.2 (p + 1)) → (∀ j, j < 8 * s.length → b j = va j) →
        wY_scan_4 post cn hg oc (nI s.length) dp (d + 1) (nI d) sz inq kq aq ra fl ln (b) bg mn rs el os ou := by
      intro d
      induction d with
      | zero =>
        intro b hd h1 h2 h3
        refine br_t (by decide) ?_
        refine hp _ (vl_xS_top hs0 ?_ h3)
        intro p hpp
        by_cases e : p = 0
        · subst e
          rw [h1 0 (by omega)]
          show r.2 0 = 0 + r.2 0
          rw [Int32.zero_add]
        · exact h2 p (by omega) hpp
      | succ d ih =>
        intro b hd h1 h2 h3
        refine br_f (nI_nle (by omega) (by omega)) ?_
        have e : nI (d + 1) = nI (d + 2) - 1 := (nI_pred (d + 1)).symm
        have go : wpY_sumUpTo (fun r_3 => (vp_in ((8 * nI s.length) + nI (d + 1)) 56 ∧ ∀ a : Nat → Int32, a = upd b ((8 * nI s.length) + nI (d + 1)).toNatClampNeg r_3 → ∀ x : Int32, x = nI (d + 1) + (-1) → wY_scan_4 post cn hg oc (nI s.length) dp (d + 1) x sz inq kq aq ra fl ln (a) bg mn rs el os ou)) (cn, hg, oc, nI s.length, dp, sz, inq, kq, aq, ra, fl, ln, b, bg, mn, rs, el, os, ou) (nI (d + 2) - 1) := by
          refine vy_sum (f := r.2) (c := d + 2) (by omega) (by omega) (fun p hpp => h1 p (by omega)) ?_
          simp (disch := omega) only [vl_8m, nI_add, nI_clamp, vl_in, forall_eq, true_and, pk_m1]
          refine ih _ (by omega) ?_ ?_ ?_
          · intro p hpp
            rw [pk_un (by omega)]; exact h1 p (by omega)
          · intro p hpp hpr
            by_cases e2 : p = d + 1
            · subst e2; rw [pk_us]
            · rw [pk_un (by omega)]; exact h2 p (by omega) hpr
          · intro j hj
            rw [pk_un (by omega)]; exact h3 j hj
        rw [← e] at go
        exact go
    refine ⟨r.1 - 1 + 1, ?_⟩
    rw [vl_sub1 _ (by omega)]
    exact H (r.1 - 1) va (by omega) (fun p hpp => g3 p (by omega)) (fun p h1 h2 => by omega) (fun j hj => rfl)
theorem vy_sort {r : vl_rw} (hs : vl_xS va ln (r :: s)) (hl : s.length + 1 ≤ 6)
    (hp : ∀ C, vl_xS C ln ((r.1, vl_so r.1 r.2) :: s) → post (cn, hg, oc, nI s.length, dp, sz, inq, kq, aq, ra, fl, ln, C, bg, mn, rs, el, os, ou)) : wpY_sortRow post (cn, hg, oc, nI s.length, dp, sz, inq, kq, aq, ra, fl, ln, va, bg, mn, rs, el, os, ou) (nI r.1) := by
  have hs0 := hs
  obtain ⟨⟨g1, g2, g3⟩, g4⟩ := hs
  unfold wpY_sortRow
  refine ⟨r.1 + 1, vl_bub (Wo := fun k c b => wY_sortRow_2 post (nI r.1) k (nI c) cn hg oc (nI s.length) dp sz inq kq aq ra fl ln (b) bg mn rs el os ou)
    (Wi := fun k c q l b => wY_sortRow_9 post (wY_sortRow_2 post (nI r.1) k) (nI r.1) (nI c) q (nI l) cn hg oc (nI s.length) dp sz inq kq aq ra fl ln (b) bg mn rs el os ou)
    (a := va) (o := 8 * s.length) (m := r.1) ?_ ?_ ?_ ?_ ?_⟩
  · intro k b h1 h2
    refine br_t (nI_le (by omega) (by omega)) ?_
    refine hp _ (vl_xS_top hs0 ?_ (fun j hj => h2 j (Or.inl hj)))
    intro p hpp
    refine vl_so_eq (m := r.1) (f := r.2) (g := fun p => b (8 * s.length + p)) ⟨h1.1, ?_⟩ p hpp
    intro v
    rw [h1.2 v]
    exact vl_ct_congr g3
  · intro k c b hc h3
    exact br_f (nI_ge (by omega) (by omega)) h3
  · intro k c q l b hc hl1 hl2 h3
    refine br_t (by rw [nI_1]; exact nI_le (by omega) (by omega)) (nm_r (nI_1 _) h3)
  · intro k c q l b hc hl1 hx h3
    refine br_f (by rw [nI_1]; exact nI_ge (by omega) (by omega)) ?_
    rw [vl_8m, nI_add, nI_1, nI_clamp (by omega), nI_clamp (by omega)]
    refine ⟨vp_in_nI (by omega) (by decide), vp_in_nI (by omega) (by decide), br_f hx ?_⟩
    rw [nI_1]
    refine vy_xch (by omega) (by omega) ?_
    exact nm_r rfl h3
  · intro k c q l b hc hl1 hx h3
    refine br_f (by rw [nI_1]; exact nI_ge (by omega) (by omega)) ?_
    rw [vl_8m, nI_add, nI_1, nI_clamp (by omega), nI_clamp (by omega)]
    exact ⟨vp_in_nI (by omega) (by decide), vp_in_nI (by omega) (by decide), br_t hx (nm_r (nI_1 _) h3)⟩
theorem vy_join {q r : vl_rw} (hs : vl_xS va ln (q :: r :: s)) (hl : s.length + 2 ≤ 6)
    (hp : ∀ C Z, vl_xS C Z ((if r.1 + q.1 < 8 then r.1 + q.1 else 8, fun p => if p < r.1 then r.2 p else q.2 (p - r.1)) :: s) → post (cn, hg, oc, nI (s.length + 1), dp, sz, inq, kq, aq, ra, fl, Z, C, bg, mn, rs, el, os, ou)) : wpY_join post (cn, hg, oc, nI s.length, dp, sz, inq, kq, aq, ra, fl, ln, va, bg, mn, rs, el, os, ou) := by
  obtain ⟨⟨f1, f2, f3⟩, ⟨g1, g2, g3⟩, g4⟩ := hs
  have f1 : ln (s.length + 1) = nI q.1 := f1
  have f3 : ∀ p, p < q.1 → va (8 * (s.length + 1) + p) = q.2 p := f3
  unfold wpY_join
  simp (disch := omega) only [nI_1, nI_clamp, vl_in, forall_eq, true_and, g1, f1]
  obtain ⟨c, hc⟩ : ∃ c, c = if r.1 + q.1 < 8 then q.1 else 8 - r.1 := ⟨_, rfl⟩
  have hc1 : c ≤ q.1 := by rw [hc]; split <;> omega
  have hc2 : r.1 + c = if r.1 + q.1 < 8 then r.1 + q.1 else 8 := by rw [hc]; split <;> omega
  have hc3 : r.1 + c ≤ 8 := by rw [hc2]; split <;> omega
  have hc4 : c < q.1 → 8 ≤ r.1 + c := by rw [hc]; split <;> omega
  rw [← hc2] at hp
  refine ⟨c + 1, vl_copy (W := fun k p b => wY_join_24 post (nI r.1) (nI q.1) cn hg oc (nI s.length) dp k (nI p) sz inq kq aq ra fl ln (b) bg mn rs el os ou) (src := q.2) (a := va) (o := 8 * s.length + r.1) (c := c) ?_ ?_⟩
  · intro k b h1 h2
    have fin : post (cn, hg, oc, nI (s.length + 1), dp, sz, inq, kq, aq, ra, fl, upd ln s.length (nI (r.1 + c)), b, bg, mn, rs, el, os, ou) := by
      refine hp _ _ (vl_xS_push g4 hc3 pk_us ?_ (fun j hj => h2 j (by omega)) (fun j hj => pk_un (by omega)))
      intro p hpp
      have hpp : p < r.1 + c := hpp
      show b (8 * s.length + p) = if p < r.1 then r.2 p else q.2 (p - r.1)
      by_cases e : p < r.1
      · rw [if_pos e, h2 _ (by omega)]; exact g3 p e
      · rw [if_neg e]
        have := h1 (p - r.1) (by omega)
        rw [show 8 * s.length + r.1 + (p - r.1) = 8 * s.length + p by omega] at this
        exact this
    have fin76 : wY_join_76 post (nI r.1) (nI q.1) cn hg oc (nI s.length) dp sz inq kq aq ra fl ln (b) bg mn rs el os ou := by
      unfold wY_join_76
      rw [nI_add]
      refine pk_le (r.1 + q.1) 8 ?_ ?_ rfl rfl (by omega) (by omega)
      · intro hz
        unfold wY_join_100
        simp (disch := omega) only [nI_clamp, vl_in, forall_eq, true_and, nI_1]
        rw [show r.1 + q.1 = r.1 + c by rw [hc2]; split <;> omega]
        exact fin
      · intro hz
        unfold wY_join_100
        simp (disch := omega) only [nI_clamp, vl_in, forall_eq, true_and, nI_1]
        rw [show r.1 + c = 8 by rw [hc2]; split <;> omega] at fin
        exact fin
    by_cases e : q.1 ≤ c
    · exact br_t (nI_le e (by omega)) fin76
    · exact br_f (nI_ge (by omega) (by omega)) (br_t (by rw [nI_add]; exact nI_le (a := 8) (hc4 (by omega)) (by omega)) fin76)
  · intro k p b hpc h1 h2 h3
    refine br_f (nI_ge (by omega) (by omega)) (br_f (by rw [nI_add]; exact nI_ge (b := 8) (by omega) (by decide)) ?_)
    simp (disch := omega) only [vl_8m, vl_a8, nI_add, nI_clamp, vl_in, forall_eq, true_and, nI_1]
    rw [h2 _ (by omega), show 8 * s.length + 8 + p = 8 * (s.length + 1) + p by omega, f3 p (by omega)]
    exact h3
theorem vy_up31 {c : Nat} {Z : Nat → Int32} (hc : c ≤ 8) (hZ : Z s.length = nI c) (hZ2 : ∀ j, j < s.length → Z j = ln j) (g4 : vl_xS va ln s) (hl : s.length + 1 ≤ 6)
    (hp : ∀ C Z, vl_xS C Z ((c, fun p => nI p) :: s) → post (cn, hg, oc, nI (s.length + 1), dp, sz, inq, kq, aq, ra, fl, Z, C, bg, mn, rs, el, os, ou)) : ∃ n, wY_upTo_31 post cn hg oc (nI s.length) dp n 0 sz inq kq aq ra fl (Z) va bg mn rs el os ou := by
  refine ⟨8 + 1, vl_copy (W := fun k p b => wY_upTo_31 post cn hg oc (nI s.length) dp k (nI p) sz inq kq aq ra fl (Z) (b) bg mn rs el os ou) (src := fun p => nI p) (a := va) (o := 8 * s.length) (c := 8) ?_ ?_⟩
  · intro k b h1 h2
    refine br_t (by decide) (nm_r (nI_1 _) ?_)
    exact hp _ _ (vl_xS_push g4 hc hZ (fun p hpp => h1 p (by have : p < c := hpp; omega)) (fun j hj => h2 j (Or.inl hj)) hZ2)
  · intro k p b hpc h1 h2 h3
    refine br_f (nI_ge (b := 8) hpc (by decide)) ?_
    simp (disch := omega) only [vl_8m, nI_add, nI_clamp, vl_in, forall_eq, true_and, nI_1]
    exact h3
theorem vy_upto {x : Int32} (hs : vl_xS va ln s) (hl : s.length + 1 ≤ 6)
    (hp : ∀ C Z, vl_xS C Z ((vl_cl x, fun p => nI p) :: s) → post (cn, hg, oc, nI (s.length + 1), dp, sz, inq, kq, aq, ra, fl, Z, C, bg, mn, rs, el, os, ou)) : wpY_upTo post (cn, hg, oc, nI s.length, dp, sz, inq, kq, aq, ra, fl, ln, va, bg, mn, rs, el, os, ou) x := by
  unfold wpY_upTo
  have ec : (nI s.length).toNatClampNeg = s.length := nI_clamp (by omega)
  have hv : vp_in (nI s.length) 7 := vp_in_nI (by omega) (by decide)
  refine br_c ?_ ?_
  · intro z
    obtain ⟨j, hj, ej⟩ := nI_of (Int32.not_lt.mpr z)
    rw [ej] at hp ⊢
    refine pk_le j 8 ?_ ?_ rfl rfl hj
    · intro hj8
      have e : vl_cl (nI j) = j := vl_cl_le hj8
      rw [e] at hp
      rw [ec]
      exact ⟨hv, nm_e (vy_up31 hj8 pk_us (fun j hj => pk_un (by omega)) hs hl hp)⟩
    · intro hj8
      have e : vl_cl (nI j) = 8 := vl_cl_gt hj8 hj
      rw [e] at hp
      rw [ec]
      exact ⟨hv, nm_e (vy_up31 (c := 8) (by omega) pk_us (fun j hj => pk_un (by omega)) hs hl hp)⟩
  · intro z
    have e : vl_cl x = 0 := if_pos (Int32.not_le.mp z)
    rw [e] at hp
    rw [ec]
    exact ⟨hv, nm_e (vy_up31 (c := 0) (by omega) pk_us (fun j hj => pk_un (by omega)) hs hl hp)⟩
