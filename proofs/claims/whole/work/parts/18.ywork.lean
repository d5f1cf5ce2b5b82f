/-! part 18: the reference's loop over the tokens -/
variable {cn hg oc tp dp : Int32} {sz inq kq aq ra fl ln va bg mn rs el os ou : Nat → Int32} {s : List vl_rw} {L : List vl_ln} {K : Nat → Nat} {post : SY → Prop} {zs : Nat → Nat} {inp : Nat → Nat → Int32}
/-- the reference's working state stands for D (its next token stands in a variable of the walk) -/
def vy_R (D : vl_D) (tp dp : Int32) (ln va bg mn rs el os ou : Nat → Int32) : Prop :=
  (tp = nI D.2.1.length ∧ dp = nI D.2.2.length) ∧ vl_xS va ln D.2.1 ∧ vl_yL rs mn el bg os ou D.2.2
theorem vy_loop {n : Nat} (h : vl_PG K aq n) (hn40 : n ≤ 40) (hn : (vl_st K n).2 = []) (hK : ∀ t, t < n → kq t = nI (K t)) (hz : ∀ i, i < 3 → zs i ≤ 8) (hi : vx_in inq sz zs inp) :
    ∀ f q D, vl_DI K n D → vl_pt K n D.2.2 D.1 ≤ f → q + f ≤ 2560 → ∀ tp dp ln va bg mn rs el os ou, vy_R D tp dp ln va bg mn rs el os ou →
    (∀ tp dp ln va bg mn rs el os ou, vy_R (vl_run K aq n zs inp f D) tp dp ln va bg mn rs el os ou → post (nI n, hg, oc, tp, dp, sz, inq, kq, aq, ra, fl, ln, va, bg, mn, rs, el, os, ou)) →
    wY_work_14 post (f + 1) (nI D.1) (nI q) (nI n) hg oc tp dp sz inq kq aq ra fl ln va bg mn rs el os ou := by
  intro f
  induction f with
  | zero =>
    intro q D hD hp hq tp dp ln va bg mn rs el os ou hR hpost
    obtain ⟨t, s, L⟩ := D
    have ht : ¬ t < n := fun ht => by
      have h1 := (vl_mv_ok (zs := zs) (inp := inp) h hn hz ht hD).2
      have h2 : vl_pt K n L t ≤ 0 := hp
      omega
    have ht2 : t ≤ n := hD.1
    obtain ⟨⟨rfl, rfl⟩, h3, h4⟩ := hR
    refine br_f (nI_ge (b := 10000) (by omega) (by decide)) ?_
    refine br_t (nI_le (by show n ≤ t; omega) (by show t < 2 ^ 31; omega)) ?_
    exact hpost _ _ _ _ _ _ _ _ _ _ ⟨⟨rfl, rfl⟩, h3, h4⟩
  | succ f ih =>
    intro q D hD hp hq tp dp ln va bg mn rs el os ou hR hpost
    obtain ⟨t, s, L⟩ := D
    have ht2 : t ≤ n := hD.1
    obtain ⟨⟨rfl, rfl⟩, h3, h4⟩ := hR
    change vl_xS va ln s at h3
    change vl_yL rs mn el bg os ou L at h4
    refine br_f (nI_ge (b := 10000) (by omega) (by decide)) ?_
    show (nI n ≤ nI t → _) ∧ (¬ nI n ≤ nI t → _)
    by_cases ht : t < n
    · have hm := vl_mv_ok (zs := zs) (inp := inp) h hn hz ht hD
      have er : vl_run K aq n zs inp (f + 1) (t, s, L) = vl_run K aq n zs inp f (vl_mv K aq n zs inp t s L) := if_pos ht
      rw [er] at hpost
      have hp' : vl_pt K n L t ≤ f + 1 := hp
      have hb := vl_bd h t (by omega)
      have hT : vl_TY (vl_st K t).1 s := hD.2.1
      have hLl : L.length = (vl_st K t).2.length := vl_LI_len hD.2.2
      have h6 : s.length ≤ 6 := by rw [vl_TYl hT]; exact hb.1
      have ho := h t ht
      have next : ∀ D', D' = vl_mv K aq n zs inp t s L → ∀ tp dp ln va bg mn rs el os ou, vy_R D' tp dp ln va bg mn rs el os ou → wY_work_14 post (f + 1) (nI D'.1) (nI (q + 1)) (nI n) hg oc tp dp sz inq kq aq ra fl ln va bg mn rs el os ou := by
        intro D' eD tp dp ln va bg mn rs el os ou hR
        subst eD
        exact ih (q + 1) _ hm.1 (by omega) (by omega) _ _ _ _ _ _ _ _ _ _ hR hpost
      refine br_f (nI_ge ht (by omega)) ⟨vp_in_nI (by omega) (by decide), ?_⟩
      rw [nI_clamp (show t < 2 ^ 31 by omega), hK t ht]
      refine nm_e ?_
      by_cases k1 : K t = 19 ∨ K t = 20
      · obtain ⟨r, s', rfl, h8, hL2, -, -⟩ := vl_mv_b h hn ht hD k1
        rw [List.length_cons] at h6
        have go : wY_work_48 post (wY_work_14 post (f + 1)) (nI t) (nI q) (nI n) hg oc (nI (s'.length + 1)) (nI L.length) sz inq kq aq ra fl ln va bg mn rs el os ou := by
          unfold wY_work_48
          by_cases h0 : r.1 = 0
          · have e : vl_mv K aq n zs inp t (r :: s') L = (vl_E K n (t + 1) 1, r :: s', L) := by
              unfold vl_mv
              rw [if_pos k1]
              exact if_pos h0
            refine vy_begin0 hn40 hn (fun t ht => ⟨hK t ht, (h t ht).1⟩) ht k1 h3 h6 h0 ?_
            exact nm_r (nI_1 q) (next _ e.symm _ _ _ _ _ _ _ _ _ _ ⟨⟨rfl, rfl⟩, h3, h4⟩)
          · have e : vl_mv K aq n zs inp t (r :: s') L = (t + 1, s', (t, r.1, r.2, 0, 0, fun _ => 0) :: L) := by
              unfold vl_mv
              rw [if_pos k1]
              exact if_neg h0
            refine vy_begin1 h3 h4 h6 hL2 h0 ?_
            intro a1 a2 a3 a4 a5 hx
            exact nm_r (nI_1 q) (next _ e.symm _ _ _ _ _ _ _ _ _ _ ⟨⟨rfl, rfl⟩, h3.2, hx⟩)
        refine pk_eq (K t) 19 (fun _ => go) (fun k3 => pk_eq (K t) 20 (fun _ => go) (fun k4 => ?_) rfl rfl (by omega) (by omega)) rfl rfl (by omega) (by omega)
        omega
      · by_cases k2 : K t = 21
        · obtain ⟨v, s', b, m, f', e, c, g, L', rfl, hv, rfl, ⟨b1, b2, b3⟩, -, -⟩ := vl_mv_e h ht hD k2
          rw [List.length_cons] at h6 hLl
          have hb2 := hb.2
          refine br_f (by rw [k2]; decide) (br_f (by rw [k2]; decide) (br_t (by rw [k2]; rfl) ?_))
          refine vy_endBlock hn40 hK (by omega) h3 hv h4 b2 (by omega) (by omega) ?_ ?_
          · intro h0 P M Q hx
            have e : vl_mv K aq n zs inp t (v :: s') ((b, m, f', e, c, g) :: L') = (b + 1, s', (b, m, f', e + 1, (vl_mk K b c f' g e (v.2 0)).1, (vl_mk K b c f' g e (v.2 0)).2) :: L') := by
              unfold vl_mv
              rw [if_neg k1, if_pos k2]
              exact if_pos h0
            exact nm_r (nI_1 q) (next _ e.symm _ _ _ _ _ _ _ _ _ _ ⟨⟨rfl, rfl⟩, h3.2, hx⟩)
          · intro h0 C Z P M Q hx hy
            have e : vl_mv K aq n zs inp t (v :: s') ((b, m, f', e, c, g) :: L') = (t + 1, vl_mk K b c f' g e (v.2 0) :: s', L') := by
              unfold vl_mv
              rw [if_neg k1, if_pos k2]
              exact if_neg h0
            exact nm_r (nI_1 q) (next _ e.symm _ _ _ _ _ _ _ _ _ _ ⟨⟨rfl, rfl⟩, hx, hy⟩)
        · have e : vl_mv K aq n zs inp t s L = (t + 1, vl_ap zs inp L (aq t) (K t) s, L) := by
            unfold vl_mv
            rw [if_neg k1, if_neg k2]
          have h22 := ho.1
          have hne : ∀ c : Nat, c < 22 → K t ≠ c → ¬ nI (K t) = nI c := fun c hc hx z => hx ((nI_eq (by omega) (by omega)).mp z)
          refine br_f (hne 19 (by omega) (by omega)) (br_f (hne 20 (by omega) (by omega)) (br_f (hne 21 (by omega) (by omega)) ⟨vp_in_nI (by omega) (by decide), ?_⟩))
          refine vy_simple (S := (vl_st K t).1) (F := (vl_st K t).2) ho (vl_k19 h22 k1 k2) hT hb.1 hLl hb.2 h3 h4 hi ?_
          intro C Z hx
          exact nm_r (nI_1 t) (nm_r (nI_1 q) (next _ e.symm _ _ _ _ _ _ _ _ _ _ ⟨⟨rfl, rfl⟩, hx, h4⟩))
    · have er : vl_run K aq n zs inp (f + 1) (t, s, L) = (t, s, L) := if_neg ht
      rw [er] at hpost
      refine br_t (nI_le (by omega) (by omega)) ?_
      exact hpost _ _ _ _ _ _ _ _ _ _ ⟨⟨rfl, rfl⟩, h3, h4⟩
theorem vy_work {n : Nat} {r : vl_rw} (h : vl_PG K aq n) (hn40 : n ≤ 40) (hn : (vl_st K n).2 = []) (hK : ∀ t, t < n → kq t = nI (K t)) (hi : vx_in inq sz zs inp)
    (hr : vl_run K aq n zs inp 2560 (0, [], []) = (n, [r], []))
    (hp : ∀ tp dp ln va bg mn rs el os ou, ln 0 = nI r.1 → (∀ p, p < r.1 → va p = r.2 p) → post (nI n, hg, oc, tp, dp, sz, inq, kq, aq, ra, fl, ln, va, bg, mn, rs, el, os, ou)) : wpY_work post (nI n, hg, oc, tp, dp, sz, inq, kq, aq, ra, fl, ln, va, bg, mn, rs, el, os, ou) := by
  have hD : vl_DI K n (0, [], []) := ⟨Nat.zero_le _, True.intro, rfl⟩
  have hpt : vl_pt K n [] 0 ≤ 2560 := by
    show 0 + 64 * (n - 0) ≤ 2560
    omega
  unfold wpY_work
  refine ⟨2560 + 1, vy_loop (zs := zs) (inp := inp) h hn40 hn hK (fun i h3 => (hi i h3).2.1) hi 2560 0 (0, [], []) hD hpt (by omega) 0 0 ln va bg mn rs el os ou ⟨⟨rfl, rfl⟩, True.intro, True.intro⟩ ?_⟩
  intro tp dp ln va bg mn rs el os ou hR
  rw [hr] at hR
  obtain ⟨-, ⟨⟨g1, g2, g3⟩, -⟩, -⟩ := hR
  refine hp _ _ _ _ _ _ _ _ _ _ g1 ?_
  intro p hpp
  have := g3 p hpp
  rw [show 8 * ([] : List vl_rw).length + p = p by show 8 * 0 + p = p; omega] at this
  exact this
