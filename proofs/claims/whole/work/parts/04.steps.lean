/-! part 4: one step of the pure machine, its invariant, its end -/
def vl_mk (K : Nat → Nat) (b c : Nat) (f g : Nat → Int32) (e : Nat) (v : Int32) : vl_rw :=
  if K b = 20 ∧ v = 0 then (c, g) else (c + 1, upd g c (if K b = 20 then f e else v))
theorem vl_mk1 (K : Nat → Nat) (b c : Nat) (f g : Nat → Int32) (e : Nat) (v : Int32) : (vl_mk K b c f g e v).1 ≤ c + 1 := by
  unfold vl_mk
  split
  · show c ≤ c + 1; omega
  · exact Nat.le_refl _
abbrev vl_D : Type := Nat × List vl_rw × List vl_ln
noncomputable def vl_mv (K : Nat → Nat) (A : Nat → Int32) (n : Nat) (zs : Nat → Nat) (inp : Nat → Nat → Int32) (t : Nat) (s : List vl_rw) (L : List vl_ln) : vl_D :=
  if K t = 19 ∨ K t = 20 then
    (match s with
      | r :: s' => if r.1 = 0 then (vl_E K n (t + 1) 1, r :: s', L) else (t + 1, s', (t, r.1, r.2, 0, 0, fun _ => 0) :: L)
      | [] => (t + 1, [], L))
  else if K t = 21 then
    (match s, L with
      | v :: s', (b, m, f, e, c, g) :: L' =>
        if e + 1 < m then (b + 1, s', (b, m, f, e + 1, (vl_mk K b c f g e (v.2 0)).1, (vl_mk K b c f g e (v.2 0)).2) :: L')
        else (t + 1, vl_mk K b c f g e (v.2 0) :: s', L')
      | s, L => (t + 1, s, L))
  else (t + 1, vl_ap zs inp L (A t) (K t) s, L)
def vl_DI (K : Nat → Nat) (n : Nat) (D : vl_D) : Prop :=
  D.1 ≤ n ∧ vl_TY (vl_st K D.1).1 D.2.1 ∧ vl_LI K n D.2.2 (vl_st K D.1).2 (vl_st K D.1).1 D.1
theorem vl_B_E {K : Nat → Nat} {n : Nat} {L : List vl_ln} {F S : List Nat} {t : Nat} (h : vl_LI K n L F S t) (hL : L ≠ []) : vl_B K n L = vl_E K n t 1 := by
  cases L with
  | nil => exact absurd rfl hL
  | cons l L =>
    obtain ⟨b, m, f, e, c, g⟩ := l
    obtain ⟨Sb, Fb, Y, -, -, -, h4, -, -⟩ := h
    exact h4.symm
theorem vl_B_gt {K : Nat → Nat} {n : Nat} {L : List vl_ln} {F S : List Nat} {t : Nat} (h : vl_LI K n L F S t) (ht : t < n) : t + 1 ≤ vl_B K n L := by
  by_cases hL : L = []
  · subst hL; exact ht
  · rw [vl_B_E h hL]
    exact vl_E_gt 0 ht
theorem vl_st_s {K : Nat → Nat} {t : Nat} : vl_st K (t + 1) = vl_ss (K t) (vl_st K t) := rfl

theorem vl_k19 {k : Nat} (h : k < 22) (k1 : ¬ (k = 19 ∨ k = 20)) (k2 : ¬ k = 21) : k < 19 := by omega
theorem vl_mv_s {K : Nat → Nat} {A : Nat → Int32} {n : Nat} {zs : Nat → Nat} {inp : Nat → Nat → Int32} (h : vl_PG K A n) (hz : ∀ i, i < 3 → zs i ≤ 8)
    {t : Nat} {s : List vl_rw} {L : List vl_ln} (ht : t < n) (hD : vl_DI K n (t, s, L)) (k1 : ¬ (K t = 19 ∨ K t = 20)) (k2 : ¬ K t = 21) :
    vl_DI K n (t + 1, vl_ap zs inp L (A t) (K t) s, L) ∧ vl_pt K n L (t + 1) < vl_pt K n L t := by
  have h1 : vl_TY (vl_st K t).1 s := hD.2.1
  have h2 : vl_LI K n L (vl_st K t).2 (vl_st K t).1 t := hD.2.2
  clear hD
  obtain ⟨o1, o2, -, o4, -⟩ := h t ht
  have hE : vl_E K n (t + 1) 1 = vl_E K n t 1 := by rw [vl_E_s 0 ht, if_neg k1, if_neg k2]
  have hB := vl_B_gt h2 ht
  refine ⟨?_, vl_pt_lt (by omega) hB⟩
  have e0 : vl_st K (t + 1) = vl_ss (K t) (vl_st K t) := rfl
  rcases hs : vl_st K t with ⟨S, F⟩
  rw [hs] at h1 h2 o2 e0
  change vl_TY S s at h1
  change vl_LI K n L F S t at h2
  obtain ⟨R, e, hb, -, g2, -⟩ := vl_ss_ok o2
  rw [g2 k1, if_neg k2] at e0
  refine ⟨by show t + 1 ≤ n; omega, ?_, ?_⟩
  · show vl_TY (vl_st K (t + 1)).1 _
    rw [e0]
    refine vl_ap_ty (vl_k19 o1 k1 k2) ?_ (by rw [← e]; exact h1)
    intro k3
    obtain ⟨i, hi, e4⟩ := o4 k3
    rw [e4, nI_clamp (by omega)]
    exact hz i hi
  · show vl_LI K n L (vl_st K (t + 1)).2 (vl_st K (t + 1)).1 (t + 1)
    rw [e0]
    refine vl_LI_mv h2 (fun _ => hE) ?_
    intro Sb Y e5 e6
    obtain ⟨Y', e7⟩ := vl_suf e hb Sb Y e5 e6
    exact ⟨vl_gr (K t) :: Y', by rw [e7]; rfl⟩
theorem vl_mv_b {K : Nat → Nat} {A : Nat → Int32} {n : Nat} (h : vl_PG K A n) (hn : (vl_st K n).2 = [])
    {t : Nat} {s : List vl_rw} {L : List vl_ln} (ht : t < n) (hD : vl_DI K n (t, s, L)) (k1 : K t = 19 ∨ K t = 20) :
    ∃ r s', s = r :: s' ∧ r.1 ≤ 8 ∧ L.length < 2 ∧
    (r.1 = 0 → vl_DI K n (vl_E K n (t + 1) 1, r :: s', L) ∧ vl_pt K n L (vl_E K n (t + 1) 1) < vl_pt K n L t) ∧
    (¬ r.1 = 0 → vl_DI K n (t + 1, s', (t, r.1, r.2, 0, 0, fun _ => 0) :: L) ∧ vl_pt K n ((t, r.1, r.2, 0, 0, fun _ => 0) :: L) (t + 1) < vl_pt K n L t) := by
  have h1 : vl_TY (vl_st K t).1 s := hD.2.1
  have h2 : vl_LI K n L (vl_st K t).2 (vl_st K t).1 t := hD.2.2
  clear hD
  obtain ⟨o1, o2, ⟨-, o3⟩, -, -⟩ := h t ht
  have hE : vl_E K n (vl_E K n (t + 1) 1) 1 = vl_E K n t 1 := by
    rw [← vl_E_add 1 1 (by omega), vl_E_s 0 ht, if_pos k1]
  have hE1 := vl_E_in (K := K) (n := n) (t := t + 1) 1 (by omega)
  have hB : vl_E K n (t + 1) 1 ≤ vl_B K n L := by
    by_cases hL : L = []
    · subst hL; exact hE1.2
    · rw [vl_B_E h2 hL, ← hE]
      exact (vl_E_in 1 hE1.2).1
  have e0 : vl_st K (t + 1) = vl_ss (K t) (vl_st K t) := rfl
  rcases hs : vl_st K t with ⟨S, F⟩
  rw [hs] at h1 h2 o2 o3 e0
  change vl_TY S s at h1
  change vl_LI K n L F S t at h2
  have o3' : F.length < 2 := o3 k1
  have hL := vl_LI_len h2
  have hL2 : L.length < 2 := by
    have : L.length = F.length := hL
    omega
  obtain ⟨R, e, hb, g1, -, -⟩ := vl_ss_ok o2
  have e1 : vl_nd (K t) = [2] := by rcases k1 with k1 | k1 <;> rw [k1] <;> rfl
  rw [e1] at e
  rw [g1 k1] at e0
  change S = 2 :: R at e
  subst e
  obtain ⟨r, s', rfl, h3, -, h4⟩ := vl_TYc h1
  refine ⟨r, s', rfl, h3, hL2, ?_, ?_⟩
  · intro _
    refine ⟨⟨hE1.2, ?_, ?_⟩, vl_pt_lt (by omega) hB⟩
    · show vl_TY (vl_st K (vl_E K n (t + 1) 1)).1 _
      rw [show vl_st K (vl_E K n (t + 1) 1) = (2 :: R, F) from vl_blk h hn R F (n - (t + 1)) (t + 1) 1 [] [] (by omega) e0 rfl (by intro x hx; cases hx)]
      exact ⟨h3, (fun z => absurd z (by decide)), h4⟩
    · show vl_LI K n L (vl_st K (vl_E K n (t + 1) 1)).2 (vl_st K (vl_E K n (t + 1) 1)).1 (vl_E K n (t + 1) 1)
      rw [show vl_st K (vl_E K n (t + 1) 1) = (2 :: R, F) from vl_blk h hn R F (n - (t + 1)) (t + 1) 1 [] [] (by omega) e0 rfl (by intro x hx; cases hx)]
      exact vl_LI_mv h2 (fun _ => hE) (fun Sb Y e5 _ => ⟨Y, e5⟩)
  · intro h0
    refine ⟨⟨by show t + 1 ≤ n; omega, ?_, ?_⟩, vl_pt_push hL2 h3 (by omega) hE1.1 hB⟩
    · show vl_TY (vl_st K (t + 1)).1 s'
      rw [e0]
      exact h4
    · show vl_LI K n ((t, r.1, r.2, 0, 0, fun _ => 0) :: L) (vl_st K (t + 1)).2 (vl_st K (t + 1)).1 (t + 1)
      rw [e0]
      exact ⟨R, F, [], e0, rfl, rfl, rfl, ⟨ht, k1, h3, by omega, Nat.le_refl _⟩, vl_LI_mv h2 (fun _ => hE) (vl_suf (D := [2]) rfl hb)⟩
theorem vl_mv_e {K : Nat → Nat} {A : Nat → Int32} {n : Nat} (h : vl_PG K A n)
    {t : Nat} {s : List vl_rw} {L : List vl_ln} (ht : t < n) (hD : vl_DI K n (t, s, L)) (k1 : K t = 21) :
    ∃ v s' b m f e c g L', s = v :: s' ∧ v.1 = 1 ∧ L = (b, m, f, e, c, g) :: L' ∧ (b < t ∧ (K b = 19 ∨ K b = 20) ∧ m ≤ 8 ∧ e < m ∧ c ≤ e) ∧
    (e + 1 < m → vl_DI K n (b + 1, s', (b, m, f, e + 1, (vl_mk K b c f g e (v.2 0)).1, (vl_mk K b c f g e (v.2 0)).2) :: L') ∧
      vl_pt K n ((b, m, f, e + 1, (vl_mk K b c f g e (v.2 0)).1, (vl_mk K b c f g e (v.2 0)).2) :: L') (b + 1) < vl_pt K n L t) ∧
    (¬ e + 1 < m → vl_DI K n (t + 1, vl_mk K b c f g e (v.2 0) :: s', L') ∧ vl_pt K n L' (t + 1) < vl_pt K n L t) := by
  have h1 : vl_TY (vl_st K t).1 s := hD.2.1
  have h2 : vl_LI K n L (vl_st K t).2 (vl_st K t).1 t := hD.2.2
  clear hD
  obtain ⟨o1, o2, -, -, -⟩ := h t ht
  have hE : vl_E K n t 1 = t + 1 := by
    rw [vl_E_s 0 ht, if_neg (by omega), if_pos k1, vl_E0]
  have e0 : vl_st K (t + 1) = vl_ss (K t) (vl_st K t) := rfl
  rcases hs : vl_st K t with ⟨S, F⟩
  rw [hs] at h1 h2 o2 e0
  change vl_TY S s at h1
  change vl_LI K n L F S t at h2
  obtain ⟨R, e1, hb, -, g2, g3⟩ := vl_ss_ok o2
  obtain ⟨g4, g5⟩ := g3 k1
  rw [g2 (by omega), if_pos k1] at e0
  rw [show vl_nd (K t) = [1] by rw [k1]; rfl] at e1
  change S = 1 :: R at e1
  subst e1
  obtain ⟨v, s', rfl, -, h3, h4⟩ := vl_TYc h1
  cases L with
  | nil => exact absurd h2 g4
  | cons l L =>
    obtain ⟨b, m, f, e, c, g⟩ := l
    obtain ⟨Sb, Fb, Y, q1, q2, q3, q4, ⟨q5, q6, q7, q8, q9⟩, q10⟩ := h2
    subst q2
    change R.length = Sb.length at g5
    have hR : R = Sb := by
      have := congrArg List.length q3
      rw [List.length_cons, List.length_append] at this
      match Y, q3, this with
      | [], q3, this => rw [List.length_nil] at this; omega
      | [y], q3, this => exact (List.cons.inj q3).2
      | y :: y2 :: Y, q3, this => rw [List.length_cons, List.length_cons] at this; omega
    subst hR
    replace q4 : vl_E K n (b + 1) 1 = t + 1 := q4.symm.trans hE
    have hbt : b < t := by
      have hin := vl_E_in (K := K) (n := n) (t := b + 1) 1 (by omega)
      rw [q4] at hin
      by_cases hb1 : b + 1 < n
      · have := vl_E_gt (K := K) (n := n) (t := b + 1) 0 hb1
        rw [q4] at this
        omega
      · have hbt2 : b = t := by omega
        subst hbt2
        omega
    refine ⟨v, s', b, m, f, e, c, g, L, rfl, h3 rfl, rfl, ⟨hbt, q6, q7, q8, q9⟩, ?_, ?_⟩
    · intro he
      refine ⟨⟨by show b + 1 ≤ n; omega, ?_, ?_⟩, vl_pt_next he q4⟩
      · show vl_TY (vl_st K (b + 1)).1 s'
        rw [q1]
        exact h4
      · show vl_LI K n _ (vl_st K (b + 1)).2 (vl_st K (b + 1)).1 (b + 1)
        rw [q1]
        have := vl_mk1 K b c f g e (v.2 0)
        exact ⟨R, Fb, [], q1, rfl, rfl, rfl, ⟨q5, q6, q7, he, by omega⟩, q10⟩
    · intro he
      refine ⟨⟨by show t + 1 ≤ n; omega, ?_, ?_⟩, vl_pt_pop q4⟩
      · show vl_TY (vl_st K (t + 1)).1 _
        rw [e0, k1]
        have := vl_mk1 K b c f g e (v.2 0)
        exact ⟨by omega, (fun z => absurd z (by decide)), h4⟩
      · show vl_LI K n L (vl_st K (t + 1)).2 (vl_st K (t + 1)).1 (t + 1)
        rw [e0]
        rw [q4] at q10
        exact vl_LI_mv q10 (fun _ => rfl) (fun Sb Y e5 _ => ⟨vl_gr (K t) :: Y, by show _ :: R = _; rw [e5]; rfl⟩)
theorem vl_mv_ok {K : Nat → Nat} {A : Nat → Int32} {n : Nat} {zs : Nat → Nat} {inp : Nat → Nat → Int32} (h : vl_PG K A n) (hn : (vl_st K n).2 = []) (hz : ∀ i, i < 3 → zs i ≤ 8)
    {t : Nat} {s : List vl_rw} {L : List vl_ln} (ht : t < n) (hD : vl_DI K n (t, s, L)) :
    vl_DI K n (vl_mv K A n zs inp t s L) ∧ vl_pt K n (vl_mv K A n zs inp t s L).2.2 (vl_mv K A n zs inp t s L).1 < vl_pt K n L t := by
  by_cases k1 : K t = 19 ∨ K t = 20
  · obtain ⟨r, s', rfl, -, -, h1, h2⟩ := vl_mv_b h hn ht hD k1
    by_cases h0 : r.1 = 0
    · have e : vl_mv K A n zs inp t (r :: s') L = (vl_E K n (t + 1) 1, r :: s', L) := by
        unfold vl_mv
        rw [if_pos k1]
        exact if_pos h0
      rw [e]; exact h1 h0
    · have e : vl_mv K A n zs inp t (r :: s') L = (t + 1, s', (t, r.1, r.2, 0, 0, fun _ => 0) :: L) := by
        unfold vl_mv
        rw [if_pos k1]
        exact if_neg h0
      rw [e]; exact h2 h0
  · by_cases k2 : K t = 21
    · obtain ⟨v, s', b, m, f, e, c, g, L', rfl, -, rfl, -, h1, h2⟩ := vl_mv_e h ht hD k2
      by_cases h0 : e + 1 < m
      · have e : vl_mv K A n zs inp t (v :: s') ((b, m, f, e, c, g) :: L') = (b + 1, s', (b, m, f, e + 1, (vl_mk K b c f g e (v.2 0)).1, (vl_mk K b c f g e (v.2 0)).2) :: L') := by
          unfold vl_mv
          rw [if_neg k1, if_pos k2]
          exact if_pos h0
        rw [e]; exact h1 h0
      · have e : vl_mv K A n zs inp t (v :: s') ((b, m, f, e, c, g) :: L') = (t + 1, vl_mk K b c f g e (v.2 0) :: s', L') := by
          unfold vl_mv
          rw [if_neg k1, if_pos k2]
          exact if_neg h0
        rw [e]; exact h2 h0
    · have e : vl_mv K A n zs inp t s L = (t + 1, vl_ap zs inp L (A t) (K t) s, L) := by
        unfold vl_mv
        rw [if_neg k1, if_neg k2]
      rw [e]
      exact vl_mv_s h hz ht hD k1 k2
noncomputable def vl_run (K : Nat → Nat) (A : Nat → Int32) (n : Nat) (zs : Nat → Nat) (inp : Nat → Nat → Int32) : Nat → vl_D → vl_D
  | 0, D => D
  | f + 1, D => if D.1 < n then vl_run K A n zs inp f (vl_mv K A n zs inp D.1 D.2.1 D.2.2) else D
theorem vl_run_ok {K : Nat → Nat} {A : Nat → Int32} {n : Nat} {zs : Nat → Nat} {inp : Nat → Nat → Int32} (h : vl_PG K A n) (hn : (vl_st K n).2 = []) (hz : ∀ i, i < 3 → zs i ≤ 8) :
    ∀ f D, vl_DI K n D → vl_pt K n D.2.2 D.1 ≤ f → vl_DI K n (vl_run K A n zs inp f D) ∧ (vl_run K A n zs inp f D).1 = n := by
  intro f
  induction f with
  | zero =>
    intro D hD hp
    refine ⟨hD, ?_⟩
    obtain ⟨t, s, L⟩ := D
    have hp' : vl_pt K n L t ≤ 0 := hp
    have hD1 : t ≤ n := hD.1
    by_cases ht : t < n
    · have h1 := (vl_mv_ok (zs := zs) (inp := inp) h hn hz ht hD).2
      omega
    · show t = n
      omega
  | succ f ih =>
    intro D hD hp
    obtain ⟨t, s, L⟩ := D
    have hp' : vl_pt K n L t ≤ f + 1 := hp
    have hD1 : t ≤ n := hD.1
    by_cases ht : t < n
    · have h1 := vl_mv_ok (zs := zs) (inp := inp) h hn hz ht hD
      have e : vl_run K A n zs inp (f + 1) (t, s, L) = vl_run K A n zs inp f (vl_mv K A n zs inp t s L) := if_pos ht
      rw [e]
      exact ih _ h1.1 (by omega)
    · have e : vl_run K A n zs inp (f + 1) (t, s, L) = (t, s, L) := if_neg ht
      rw [e]
      exact ⟨hD, by show t = n; omega⟩
/-- a whole program's result: one row -/
theorem vl_run_end {K : Nat → Nat} {A : Nat → Int32} {n : Nat} {zs : Nat → Nat} {inp : Nat → Nat → Int32} (h : vl_PG K A n) (hn40 : n ≤ 40) (hn : (vl_st K n).2 = []) (h1 : (vl_st K n).1.length = 1) (hz : ∀ i, i < 3 → zs i ≤ 8) :
    ∃ r, r.1 ≤ 8 ∧ vl_run K A n zs inp 2560 (0, [], []) = (n, [r], []) ∧ vl_DI K n (0, [], []) ∧ vl_pt K n [] 0 ≤ 2560 := by
  have hD : vl_DI K n (0, [], []) := ⟨Nat.zero_le _, True.intro, rfl⟩
  have hp : vl_pt K n [] 0 ≤ 2560 := by
    show 0 + 64 * (n - 0) ≤ 2560
    omega
  obtain ⟨⟨-, h2, h3⟩, h4⟩ := vl_run_ok (zs := zs) (inp := inp) h hn hz 2560 (0, [], []) hD hp
  rcases hr : vl_run K A n zs inp 2560 (0, [], []) with ⟨t, s, L⟩
  rw [hr] at h2 h3 h4
  change t = n at h4
  subst h4
  change vl_TY (vl_st K t).1 s at h2
  change vl_LI K t L (vl_st K t).2 (vl_st K t).1 t at h3
  have h5 := vl_LI_len h3
  rw [hn] at h5
  have : L = [] := List.length_eq_zero_iff.mp h5
  subst this
  have h6 := vl_TYl h2
  rw [h1] at h6
  match s, h6, h2 with
  | [r], _, h2 =>
    obtain ⟨r', s', e, h7, -, -⟩ : ∃ r' s', [r] = r' :: s' ∧ r'.1 ≤ 8 ∧ True ∧ True := by
      cases hS : (vl_st K t).1 with
      | nil => rw [hS] at h1; cases h1
      | cons x S =>
        rw [hS] at h2
        obtain ⟨r', s', e, h8, -, -⟩ := vl_TYc h2
        exact ⟨r', s', e, h8, True.intro, True.intro⟩
    replace e := (List.cons.inj e).1
    subst e
    exact ⟨r, h7, rfl, hD, hp⟩
