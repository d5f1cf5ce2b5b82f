/-! part 17: the reference's lanes -/
variable {cn hg oc tp dp : Int32} {sz inq kq aq ra fl ln va bg mn rs el os ou : Nat → Int32} {s : List vl_rw} {L : List vl_ln} {K : Nat → Nat}
theorem vl_F_s {K : Nat → Nat} {t : Nat} : (vl_st K (t + 1)).2.length = if K t = 19 ∨ K t = 20 then (vl_st K t).2.length + 1 else if K t = 21 then (vl_st K t).2.length - 1 else (vl_st K t).2.length := by
  show (vl_ss (K t) (vl_st K t)).2.length = _
  unfold vl_ss
  by_cases h1 : K t = 19 ∨ K t = 20
  · rw [if_pos h1, if_pos h1]; rfl
  · rw [if_neg h1, if_neg h1]
    show (if K t = 21 then (vl_st K t).2.tail else (vl_st K t).2).length = _
    by_cases h2 : K t = 21
    · rw [if_pos h2, if_pos h2, List.length_tail]
    · rw [if_neg h2, if_neg h2]
theorem vy_endOf {post : Int32 → Prop} {n : Nat} (hn : n ≤ 40) (hF : (vl_st K n).2 = []) (hK : ∀ t, t < n → kq t = nI (K t) ∧ K t < 22) :
    ∀ d t o, t + d = n → o + 1 ≤ (vl_st K t).2.length → o + d ≤ 100 → (∀ e, e + 1 = vl_sk K d t (o + 1) → post (nI e)) → wY_endOf_6 post (nI n) hg oc tp dp sz inq kq aq ra fl ln va bg mn rs el os ou (d + 1) (nI o) (nI t) := by
  intro d
  induction d with
  | zero =>
    intro t o ht ho hod hp
    have : t = n := by omega
    subst this
    rw [hF] at ho
    exact absurd ho (by show ¬ o + 1 ≤ 0; omega)
  | succ d ih =>
    intro t o ht ho hod hp
    obtain ⟨e1, e2⟩ := hK t (by omega)
    have hFs := vl_F_s (K := K) (t := t)
    have hp : ∀ e, e + 1 = vl_sk K d (t + 1) (if K t = 19 ∨ K t = 20 then o + 2 else if K t = 21 then o else o + 1) → post (nI e) := hp
    have ec : (nI t).toNatClampNeg = t := nI_clamp (by omega)
    have hv : vp_in (nI t) 40 := vp_in_nI (by omega) (by decide)
    have go31 : (K t = 21 → 1 ≤ o) → wY_endOf_31 post (wY_endOf_6 post (nI n) hg oc tp dp sz inq kq aq ra fl ln va bg mn rs el os ou (d + 1)) (nI o) (nI t) (nI n) hg oc tp dp sz inq kq aq ra fl ln va bg mn rs el os ou := by
      intro h21
      unfold wY_endOf_31
      rw [ec, e1]
      refine ⟨hv, pk_eq (K t) 21 ?_ ?_⟩
      · intro hk
        have ho1 := h21 hk
        rw [if_neg (by omega), if_pos hk] at hp
        rw [if_neg (by omega), if_pos hk] at hFs
        obtain ⟨o', rfl⟩ : ∃ o', o = o' + 1 := ⟨o - 1, by omega⟩
        exact nm_r (nI_pred o') (nm_r (nI_1 _) (ih (t + 1) o' (by omega) (by omega) (by omega) hp))
      · intro hk
        refine ⟨hv, pk_eq (K t) 19 ?_ ?_⟩
        · intro hk2
          rw [if_pos (Or.inl hk2)] at hp hFs
          exact nm_r (nI_1 _) (nm_r (nI_1 _) (ih (t + 1) (o + 1) (by omega) (by omega) (by omega) hp))
        · intro hk2
          refine ⟨hv, pk_eq (K t) 20 ?_ ?_⟩
          · intro hk3
            rw [if_pos (Or.inr hk3)] at hp hFs
            exact nm_r (nI_1 _) (nm_r (nI_1 _) (ih (t + 1) (o + 1) (by omega) (by omega) (by omega) hp))
          · intro hk3
            rw [if_neg (by omega), if_neg hk] at hp hFs
            exact nm_r (nI_1 _) (ih (t + 1) o (by omega) (by omega) (by omega) hp)
    refine br_f (nI_ge (by omega) (by omega)) ⟨hv, ?_⟩
    rw [ec, e1]
    refine pk_eq (K t) 21 ?_ ?_
    · intro hk
      refine br_c ?_ ?_
      · intro z
        have z : o = 0 := (vl_z (by omega)).mp z
        subst z
        rw [if_neg (by omega), if_pos hk, vl_sk0] at hp
        exact hp t rfl
      · intro z
        exact go31 (fun _ => by
          have : ¬ o = 0 := fun w => z (by rw [w]; rfl)
          omega)
    · intro hk
      exact go31 (fun w => absurd w hk)
theorem vy_begin0 {post : Int32 → SY → Prop} {n t : Nat} {r : vl_rw} (hn : n ≤ 40) (hF : (vl_st K n).2 = []) (hK : ∀ t, t < n → kq t = nI (K t) ∧ K t < 22) (ht : t < n) (hk : K t = 19 ∨ K t = 20) (hs : vl_xS va ln (r :: s)) (hl : s.length + 1 ≤ 6) (h0 : r.1 = 0)
    (hp : post (nI (vl_E K n (t + 1) 1)) (nI n, hg, oc, nI (s.length + 1), dp, sz, inq, kq, aq, ra, fl, ln, va, bg, mn, rs, el, os, ou)) : wpY_begin post (nI n, hg, oc, nI (s.length + 1), dp, sz, inq, kq, aq, ra, fl, ln, va, bg, mn, rs, el, os, ou) (nI t) := by
  obtain ⟨⟨g1, g2, g3⟩, g4⟩ := hs
  unfold wpY_begin
  refine nm_r (nI_pred _) ⟨vp_in_nI (by omega) (by decide), ?_⟩
  rw [nI_clamp (by omega), g1, h0]
  refine br_t rfl (nm_r (nI_1 _) ?_)
  unfold wpY_endOf
  refine nm_r (nI_1 _) ⟨n - (t + 1) + 1, vy_endOf hn hF hK (n - (t + 1)) (t + 1) 0 (by omega) ?_ (by omega) ?_⟩
  · rw [vl_F_s, if_pos hk]; omega
  · intro e he
    rw [nI_1]
    have : vl_E K n (t + 1) 1 = e + 1 := he.symm
    rw [this] at hp
    exact hp
theorem vy_begin1 {post : Int32 → SY → Prop} {t : Nat} {r : vl_rw} (hs : vl_xS va ln (r :: s)) (hL : vl_yL rs mn el bg os ou L) (hl : s.length + 1 ≤ 6) (hL2 : L.length < 2) (h0 : ¬ r.1 = 0)
    (hp : ∀ a1 a2 a3 a4 a5, vl_yL a1 a2 a3 a4 a5 ou ((t, r.1, r.2, 0, 0, fun _ => 0) :: L) → post (nI (t + 1)) (cn, hg, oc, nI s.length, nI (L.length + 1), sz, inq, kq, aq, ra, fl, ln, va, a4, a2, a1, a3, a5, ou)) :
    wpY_begin post (cn, hg, oc, nI (s.length + 1), nI L.length, sz, inq, kq, aq, ra, fl, ln, va, bg, mn, rs, el, os, ou) (nI t) := by
  obtain ⟨⟨g1, g2, g3⟩, g4⟩ := hs
  unfold wpY_begin
  simp (disch := omega) only [nI_pred, nI_clamp, vl_in, forall_eq, true_and, g1]
  refine br_f (by rw [vl_z (by omega)]; exact h0) ?_
  refine ⟨8 + 1, vl_copy (W := fun q p b => wY_begin_90 post (nI t) cn hg oc (nI s.length) (nI L.length) q (nI p) sz inq kq aq ra fl ln va (upd bg L.length (nI t)) (upd mn L.length (nI r.1)) (b) (upd el L.length 0) (upd os L.length 0) ou) (src := fun p => va (8 * s.length + p)) (a := rs) (o := 8 * L.length) (c := 8) ?_ ?_⟩
  · intro q b h1 h2
    refine br_t (by decide) (nm_r (nI_1 _) ?_)
    rw [nI_1]
    refine hp _ _ _ _ _ ⟨⟨⟨g2, by omega, Nat.le_refl _⟩, pk_us, pk_us, pk_us, pk_us, fun p hpp => (h1 p (by omega)).trans (g3 p hpp), fun p hpp => by omega⟩, ?_⟩
    exact vl_yL_congr hL (fun j hj => h2 j (Or.inl hj)) (fun j hj => pk_un (by omega)) (fun j hj => pk_un (by omega)) (fun j hj => pk_un (by omega)) (fun j hj => pk_un (by omega)) (fun j hj => rfl)
  · intro q p b hpc h1 h2 h3
    refine br_f (nI_ge (b := 8) hpc (by decide)) ?_
    simp (disch := omega) only [vl_8m, nI_add, nI_clamp, vl_in, forall_eq, true_and, nI_1]
    exact h3
theorem vy_eb113 {post : Int32 → SY → Prop} {t b m e c : Nat} {f g : Nat → Int32} (hL2 : L.length < 2) (hL : vl_yL rs mn el bg os ou L) (q1 : mn L.length = nI m) (q2 : el L.length = nI e) (q4 : bg L.length = nI b)
    (q5 : os L.length = nI c) (q6 : ∀ p, p < m → rs (8 * L.length + p) = f p) (q7 : ∀ p, p < c → ou (8 * L.length + p) = g p) (hm : m ≤ 8) (he : e < m) (hc : c ≤ e + 1) (hs : vl_xS va ln s) (hl : s.length < 6)
    (h1 : e + 1 < m → ∀ P, vl_yL rs mn P bg os ou ((b, m, f, e + 1, c, g) :: L) → post (nI (b + 1)) (cn, hg, oc, nI s.length, nI (L.length + 1), sz, inq, kq, aq, ra, fl, ln, va, bg, mn, rs, P, os, ou))
    (h2 : ¬ e + 1 < m → ∀ C Z P, vl_xS C Z ((c, g) :: s) → vl_yL rs mn P bg os ou L → post (nI (t + 1)) (cn, hg, oc, nI (s.length + 1), nI L.length, sz, inq, kq, aq, ra, fl, Z, C, bg, mn, rs, P, os, ou)) :
    wY_endBlock_113 post (nI t) (nI L.length) cn hg oc (nI s.length) (nI (L.length + 1)) sz inq kq aq ra fl ln va bg mn rs el os ou := by
  unfold wY_endBlock_113
  simp (disch := omega) only [nI_clamp, vl_in, forall_eq, true_and, q2, nI_1, pk_us, q1, q4, q5]
  have hL' : vl_yL rs mn (upd el L.length (nI (e + 1))) bg os ou L := vl_yL_congr hL (fun _ _ => rfl) (fun _ _ => rfl) (fun j hj => pk_un (by omega)) (fun _ _ => rfl) (fun _ _ => rfl) (fun _ _ => rfl)
  refine pk_le m (e + 1) ?_ ?_ rfl rfl (by omega) (by omega)
  · intro hz
    refine ⟨8 + 1, vl_copy (W := fun q p b => wY_endBlock_165 post (nI t) (nI L.length) cn hg oc (nI s.length) (nI (L.length + 1)) q (nI p) sz inq kq aq ra fl (upd ln s.length (nI c)) (b) bg mn rs (upd el L.length (nI (e + 1))) os ou) (src := fun p => ou (8 * L.length + p)) (a := va) (o := 8 * s.length) (c := 8) ?_ ?_⟩
    · intro q b' g1 g2
      refine br_t (by decide) (nm_r (nI_1 _) (nm_r (nI_pred _) ?_))
      rw [nI_1]
      exact h2 (by omega) _ _ _ (vl_xS_push hs (by show c ≤ 8; omega) pk_us (fun p hpp => (g1 p (by have : p < c := hpp; omega)).trans (q7 p hpp)) (fun j hj => g2 j (Or.inl hj)) (fun j hj => pk_un (by omega))) hL'
    · intro q p b' hpc g1 g2 h3
      refine br_f (nI_ge (b := 8) hpc (by decide)) ?_
      simp (disch := omega) only [vl_8m, nI_add, nI_clamp, vl_in, forall_eq, true_and, nI_1]
      exact h3
  · intro hz
    exact h1 hz _ ⟨⟨⟨hm, hz, hc⟩, q1, pk_us, q4, q5, q6, q7⟩, hL'⟩
theorem vy_endBlock {post : Int32 → SY → Prop} {n t b m e c : Nat} {f g : Nat → Int32} {v : vl_rw} (hn : n ≤ 40) (hKq : ∀ t, t < n → kq t = nI (K t)) (hb : b < n) (hs : vl_xS va ln (v :: s)) (hv : v.1 = 1) (hL : vl_yL rs mn el bg os ou ((b, m, f, e, c, g) :: L)) (hK : K b = 19 ∨ K b = 20) (hl : s.length < 6) (hL2 : L.length < 2)
    (h1 : e + 1 < m → ∀ P M Q, vl_yL rs mn P bg Q M ((b, m, f, e + 1, (vl_mk K b c f g e (v.2 0)).1, (vl_mk K b c f g e (v.2 0)).2) :: L) → post (nI (b + 1)) (cn, hg, oc, nI s.length, nI (L.length + 1), sz, inq, kq, aq, ra, fl, ln, va, bg, mn, rs, P, Q, M))
    (h2 : ¬ e + 1 < m → ∀ C Z P M Q, vl_xS C Z (vl_mk K b c f g e (v.2 0) :: s) → vl_yL rs mn P bg Q M L → post (nI (t + 1)) (cn, hg, oc, nI (s.length + 1), nI L.length, sz, inq, kq, aq, ra, fl, Z, C, bg, mn, rs, P, Q, M)) :
    wpY_endBlock post (cn, hg, oc, nI (s.length + 1), nI (L.length + 1), sz, inq, kq, aq, ra, fl, ln, va, bg, mn, rs, el, os, ou) (nI t) := by
  have e0 : va (8 * s.length) = v.2 0 := vl_xS_0 hs hv
  obtain ⟨⟨⟨b1, b2, b3⟩, q1, q2, q4, q5, q6, q7⟩, hL'⟩ := hL
  have made : ∀ w, vl_mk K b c f g e (v.2 0) = (c + 1, upd g c w) → wY_endBlock_102 post (nI t) (nI L.length) w (nI (8 * L.length + c)) cn hg oc (nI s.length) (nI (L.length + 1)) sz inq kq aq ra fl ln va bg mn rs el os ou := by
    intro w ew
    rw [ew] at h1 h2
    unfold wY_endBlock_102
    simp (disch := omega) only [nI_clamp, vl_in, forall_eq, true_and, q5, nI_1]
    refine vy_eb113 (c := c + 1) (g := upd g c w) hL2 ?_ q1 q2 q4 pk_us q6 ?_ b1 b2 (by omega) hs.2 hl (fun hz P hx => h1 hz P _ _ hx) (fun hz C Z P hx hy => h2 hz C Z P _ _ hx hy)
    · exact vl_yL_congr hL' (fun _ _ => rfl) (fun _ _ => rfl) (fun _ _ => rfl) (fun _ _ => rfl) (fun j hj => pk_un (by omega)) (fun j hj => pk_un (by omega))
    · intro p hp
      by_cases ep : p = c
      · subst ep; rw [pk_us, pk_us]
      · rw [pk_un (by omega), pk_un ep]; exact q7 p (by omega)
  unfold wpY_endBlock
  simp (disch := omega) only [nI_pred, vl_8m, nI_clamp, vl_in, forall_eq, true_and, e0, q4, hKq b hb]
  refine pk_eq (K b) 20 ?_ ?_ rfl rfl (by omega) (by omega)
  · intro hk
    refine br_f (by decide) (br_c ?_ ?_)
    · intro z
      have ew : vl_mk K b c f g e (v.2 0) = (c, g) := by unfold vl_mk; rw [if_pos ⟨hk, z⟩]
      rw [ew] at h1 h2
      exact vy_eb113 (c := c) (g := g) hL2 hL' q1 q2 q4 q5 q6 q7 b1 b2 (by omega) hs.2 hl (fun hz P hx => h1 hz P _ _ hx) (fun hz C Z P hx hy => h2 hz C Z P _ _ hx hy)
    · intro z
      unfold wY_endBlock_62
      simp (disch := omega) only [nI_clamp, q2, q5, vl_8m, nI_add, vl_in, true_and]
      refine br_f (by decide) ?_
      rw [q6 e (by omega)]
      exact made (f e) (by unfold vl_mk; rw [if_neg (fun w => z w.2), if_pos hk])
  · intro hk
    refine br_t rfl ?_
    unfold wY_endBlock_62
    simp (disch := omega) only [nI_clamp, q2, q5, vl_8m, nI_add, vl_in, true_and]
    refine br_t True.intro ?_
    exact made (v.2 0) (by unfold vl_mk; rw [if_neg (fun w => hk w.1), if_neg hk])
