/-! part 16: the reference's tokens -/
variable {cn hg oc tp dp : Int32} {sz inq kq aq ra fl ln va bg mn rs el os ou : Nat → Int32} {s : List vl_rw} {L : List vl_ln} {post : SY → Prop} {zs : Nat → Nat} {inp : Nat → Nat → Int32}
def vl_ytk (k : Nat) : Nat := if k < 3 then 0 else if k = 21 then 0 else if k = 9 then 3 else if k < 9 then 2 else if k = 13 then 2 else if k = 15 then 2 else 1
theorem vy_takes {post : Int32 → Prop} {k t : Nat} (hk : k < 22) (ht : vl_ytk k = t) (hp : post (nI t)) : wpY_takes post (cn, hg, oc, tp, dp, sz, inq, kq, aq, ra, fl, ln, va, bg, mn, rs, el, os, ou) (nI k) := by
  subst ht
  unfold wpY_takes
  unfold vl_ytk at hp
  refine pk_lt k 3 (fun h => ?_) (fun h => pk_eq k 21 (fun h1 => ?_) (fun h1 => pk_eq k 9 (fun h2 => ?_) (fun h2 => pk_lt k 9 (fun h3 => ?_) (fun h3 => pk_eq k 13 (fun h4 => ?_) (fun h4 => pk_eq k 15 (fun h5 => ?_) (fun h5 => ?_))))))
  · rw [if_pos h] at hp; exact hp
  · rw [if_neg (by omega), if_pos h1] at hp; exact hp
  · rw [if_neg (by omega), if_neg h1, if_pos h2] at hp; exact hp
  · rw [if_neg (by omega), if_neg h1, if_neg h2, if_pos h3] at hp; exact hp
  · rw [if_neg (by omega), if_neg h1, if_neg h2, if_neg (by omega), if_pos h4] at hp; exact hp
  · rw [if_neg (by omega), if_neg h1, if_neg h2, if_neg (by omega), if_neg h4, if_pos h5] at hp; exact hp
  · rw [if_neg (by omega), if_neg h1, if_neg h2, if_neg (by omega), if_neg h4, if_neg h5] at hp; exact hp
theorem vl_sb (a b : Nat) : nI (a + b) - nI b = nI a := by rw [pk_sub (by omega), Nat.add_sub_cancel]
theorem vy_co_n {k h t : Nat} {a v : Int32} (h3 : 3 ≤ k) (h14 : k < 14) (ht : vl_ytk k = t) (hh : h < 7) (hv : ∀ Q : Int32 → Prop, Q v → wpY_asNumber Q (cn, hg, oc, nI h, dp, sz, inq, kq, aq, ra, fl, ln, va, bg, mn, rs, el, os, ou) (nI k))
    (hp : post (cn, hg, oc, nI (h + 1), dp, sz, inq, kq, aq, ra, fl, upd ln h 1, upd va (8 * h) v, bg, mn, rs, el, os, ou)) : wpY_carryOut post (cn, hg, oc, nI (h + t), dp, sz, inq, kq, aq, ra, fl, ln, va, bg, mn, rs, el, os, ou) (nI k) a := by
  unfold wpY_carryOut
  refine br_t (nI_le (a := 3) h3 (by omega)) (vy_takes (by omega) ht ?_)
  refine nm_r (vl_sb h t) ⟨vp_in_nI hh (by decide), nm_e (br_f (nI_ge (b := 14) h14 (by decide)) ?_)⟩
  refine hv _ ?_
  exact vy_push hh hp
theorem vy_as_p {post : Int32 → Prop} {k : Nat} (h3 : 3 ≤ k) (h9 : k < 9) {m n : vl_rw} (hs : vl_xS va ln (m :: n :: s)) (hm : m.1 = 1) (hn : n.1 = 1) (hl : s.length + 2 ≤ 6) (hp : post (vl_cm k (n.2 0) (m.2 0))) : wpY_asNumber post (cn, hg, oc, nI s.length, dp, sz, inq, kq, aq, ra, fl, ln, va, bg, mn, rs, el, os, ou) (nI k) := by
  have e1 : va (8 * s.length + 8) = m.2 0 := vl_xS_0 hs hm
  have e2 : va (8 * s.length) = n.2 0 := vl_xS_0 hs.2 hn
  unfold wpY_asNumber
  simp (disch := omega) only [vl_8m, nI_clamp, vl_in, forall_eq, true_and, vl_a8, e1, e2]
  refine br_f (nI_ge (b := 9) h9 (by decide)) ?_
  exact vy_comb h3 h9 hp
theorem vy_as_9 {post : Int32 → Prop} {k m n : vl_rw} (hs : vl_xS va ln (k :: m :: n :: s)) (hk : k.1 = 1) (hm : m.1 = 1) (hn : n.1 = 1) (hl : s.length + 3 ≤ 6) (hp : post (if n.2 0 = 0 then k.2 0 else m.2 0)) : wpY_asNumber post (cn, hg, oc, nI s.length, dp, sz, inq, kq, aq, ra, fl, ln, va, bg, mn, rs, el, os, ou) (nI 9) := by
  have e0 : va (8 * s.length + 16) = k.2 0 := vl_xS_0 hs hk
  have e1 : va (8 * s.length + 8) = m.2 0 := vl_xS_0 hs.2 hm
  have e2 : va (8 * s.length) = n.2 0 := vl_xS_0 hs.2.2 hn
  unfold wpY_asNumber
  simp (disch := omega) only [vl_8m, nI_clamp, vl_in, forall_eq, true_and, vl_a8, vl_a16, e0, e1, e2]
  refine br_t (by decide) (br_t (by decide) (br_c ?_ ?_))
  · intro z; rw [if_pos z] at hp; exact hp
  · intro z; rw [if_neg z] at hp; exact hp
theorem vy_as_m {post : Int32 → Prop} {k : Nat} (hk : k = 10 ∨ k = 11 ∨ k = 12) {r : vl_rw} (hs : vl_xS va ln (r :: s)) (hl : s.length + 1 ≤ 6) (hp : post (if k = 10 then nI r.1 else if k = 11 then vl_sm r.2 r.1 else vl_mx r.2 r.1)) : wpY_asNumber post (cn, hg, oc, nI s.length, dp, sz, inq, kq, aq, ra, fl, ln, va, bg, mn, rs, el, os, ou) (nI k) := by
  obtain ⟨⟨g1, g2, g3⟩, g4⟩ := hs
  unfold wpY_asNumber
  refine ⟨by rw [vl_8m]; exact vp_in_nI (by omega) (by decide), nm_e ⟨vp_in_nI (by omega) (by decide), nm_r (e' := nI r.1) (by rw [nI_clamp (by omega)]; exact g1) ?_⟩⟩
  rcases hk with rfl | rfl | rfl
  · exact br_t (by decide) (br_f (by decide) (br_t (by decide) hp))
  · refine br_t (by decide) (br_f (by decide) (br_f (by decide) (br_t (by decide) ?_)))
    exact vy_sum (by omega) g2 g3 hp
  · refine br_t (by decide) (br_f (by decide) (br_f (by decide) (br_f (by decide) (br_t (by decide) ?_))))
    exact vy_most (by omega) g2 g3 hp
theorem vy_as_13 {post : Int32 → Prop} {i r : vl_rw} (hs : vl_xS va ln (i :: r :: s)) (hi : i.1 = 1) (hl : s.length + 2 ≤ 6) (hp : post (vl_at (i.2 0) r)) : wpY_asNumber post (cn, hg, oc, nI s.length, dp, sz, inq, kq, aq, ra, fl, ln, va, bg, mn, rs, el, os, ou) (nI 13) := by
  have e1 : va (8 * s.length + 8) = i.2 0 := vl_xS_0 hs hi
  obtain ⟨-, ⟨g1, g2, g3⟩, g4⟩ := hs
  unfold wpY_asNumber
  refine ⟨by rw [vl_8m]; exact vp_in_nI (by omega) (by decide), nm_e ⟨vp_in_nI (by omega) (by decide), nm_r (e' := nI r.1) (by rw [nI_clamp (by omega)]; exact g1) ?_⟩⟩
  refine br_t (by decide) (br_f (by decide) (br_f (by decide) (br_f (by decide) (br_f (by decide) ?_))))
  refine ⟨by rw [vl_8m, vl_a8]; exact vp_in_nI (by omega) (by decide), nm_r (e' := i.2 0) (by rw [vl_8m, vl_a8, nI_clamp (by omega)]; exact e1) ?_⟩
  refine br_c ?_ ?_
  · intro z
    have e : vl_at (i.2 0) r = 0 := if_neg (fun w => Int32.not_lt.mpr w.1 z)
    rw [e] at hp
    exact hp
  · intro z
    obtain ⟨j, hj, ej⟩ := nI_of z
    rw [ej] at hp ⊢
    refine br_c ?_ ?_
    · intro z2
      have e : vl_at (nI j) r = 0 := if_neg (fun w => Int32.not_lt.mpr z2 w.2)
      rw [e] at hp
      exact hp
    · intro z2
      rw [nI_leI (by omega) hj] at z2
      have e : vl_at (nI j) r = r.2 j := by
        unfold vl_at
        rw [if_pos ⟨nI_pos' hj, nI_lt (by omega) (by omega)⟩, nI_clamp hj]
      rw [e] at hp
      rw [vl_8m, nI_add, nI_clamp (by omega), g3 j (by omega)]
      exact ⟨vp_in_nI (by omega) (by decide), hp⟩
theorem vy_pushInput {i c : Nat} {Z : Nat → Int32} {r : Nat → Int32} (hl : s.length < 6) (hi : i < 3) (hc : c ≤ 8) (hZ : Z s.length = nI c) (hZ2 : ∀ j, j < s.length → Z j = ln j) (hs : vl_xS va ln s) (hr : ∀ p, p < c → inq (8 * i + p) = r p)
    (hp : ∀ C, vl_xS C Z ((c, r) :: s) → post (cn, hg, oc, nI (s.length + 1), dp, sz, inq, kq, aq, ra, fl, Z, C, bg, mn, rs, el, os, ou)) : ∃ n, wY_simple_34 post (nI i) cn hg oc (nI s.length) dp n 0 sz inq kq aq ra fl (Z) va bg mn rs el os ou := by
  refine ⟨8 + 1, vl_copy (W := fun k p b => wY_simple_34 post (nI i) cn hg oc (nI s.length) dp k (nI p) sz inq kq aq ra fl (Z) (b) bg mn rs el os ou) (src := fun p => inq (8 * i + p)) (a := va) (o := 8 * s.length) (c := 8) ?_ ?_⟩
  · intro k b h1 h2
    refine br_t (by decide) (nm_r (nI_1 _) ?_)
    exact hp _ (vl_xS_push hs hc hZ (fun p hpp => (h1 p (by have : p < c := hpp; omega)).trans (hr p hpp)) (fun j hj => h2 j (Or.inl hj)) hZ2)
  · intro k p b hpc h1 h2 h3
    refine br_f (nI_ge (b := 8) hpc (by decide)) ?_
    simp (disch := omega) only [vl_8m, nI_add, nI_clamp, vl_in, forall_eq, true_and, nI_1]
    exact h3
theorem vy_simple {k : Nat} {a : Int32} {S F : List Nat} (ho : vl_ok k a (S, F)) (k1 : k < 19) (hT : vl_TY S s) (h6 : S.length ≤ 6) (hF : L.length = F.length) (hF2 : F.length ≤ 2)
    (hs : vl_xS va ln s) (hL : vl_yL rs mn el bg os ou L) (hi : vx_in inq sz zs inp)
    (hp : ∀ C Z, vl_xS C Z (vl_ap zs inp L a k s) → post (cn, hg, oc, nI (vl_ap zs inp L a k s).length, dp, sz, inq, kq, aq, ra, fl, Z, C, bg, mn, rs, el, os, ou)) : wpY_carryOut post (cn, hg, oc, nI s.length, dp, sz, inq, kq, aq, ra, fl, ln, va, bg, mn, rs, el, os, ou) (nI k) a := by
  obtain ⟨o1, o2, ⟨o3, -⟩, o4, o5⟩ := ho
  obtain ⟨R, e, hb, -⟩ := vl_ss_ok o2
  have h6' : s.length ≤ 6 := by rw [vl_TYl hT]; exact h6
  subst e
  have c : k = 0 ∨ k = 1 ∨ k = 2 ∨ (3 ≤ k ∧ k < 9) ∨ k = 9 ∨ (k = 10 ∨ k = 11 ∨ k = 12) ∨ k = 13 ∨ k = 14 ∨ k = 15 ∨ k = 16 ∨ k = 17 ∨ k = 18 := by omega
  rcases c with rfl | rfl | rfl | ⟨c1, c2⟩ | rfl | c1 | rfl | rfl | rfl | rfl | rfl | rfl
  · have o3 : (vl_nd 0 ++ R).length < 6 := o3 (by omega)
    have o3 : s.length < 6 := by rw [vl_TYl hT]; exact o3
    unfold wpY_carryOut
    refine br_f (by decide) ?_
    unfold wpY_simple
    refine br_t (by decide) ?_
    refine vy_push (by omega) ?_
    exact hp _ _ (vl_xS_num hs)
  · have o3 : (vl_nd 1 ++ R).length < 6 := o3 (by omega)
    have o3 : s.length < 6 := by rw [vl_TYl hT]; exact o3
    obtain ⟨i, h3, rfl⟩ := o4 rfl
    obtain ⟨z1, z2, z3⟩ := hi i h3
    have ea : vl_ap zs inp L (nI i) 1 s = (zs i, inp i) :: s := by
      show (zs (nI i).toNatClampNeg, inp (nI i).toNatClampNeg) :: s = _
      rw [nI_clamp (by omega)]
    rw [ea] at hp
    unfold wpY_carryOut
    refine br_f (by decide) ?_
    unfold wpY_simple
    refine br_f (by decide) (br_t (by decide) ⟨vp_in_nI h3 (by decide), vp_in_nI (by omega) (by decide), ?_⟩)
    rw [nI_clamp (by omega), nI_clamp (by omega), z1]
    exact nm_e (vy_pushInput o3 h3 z2 pk_us (fun j hj => pk_un (by omega)) hs z3 (fun C hx => hp C _ hx))
  · have o3 : (vl_nd 2 ++ R).length < 6 := o3 (by omega)
    have o3 : s.length < 6 := by rw [vl_TYl hT]; exact o3
    obtain ⟨i, h3, rfl⟩ := o5 rfl
    have h3 : i < F.length := h3
    have ea : vl_ap zs inp L (nI i) 2 s = (1, fun _ => vl_el L i) :: s := by
      show (1, fun _ => vl_el L (nI i).toNatClampNeg) :: s = _
      rw [nI_clamp (by omega)]
    rw [ea] at hp
    obtain ⟨e, he, h4, h5⟩ := vl_yL_el hL (i := i) (by omega)
    unfold wpY_carryOut
    refine br_f (by decide) ?_
    unfold wpY_simple
    refine br_f (by decide) (br_f (by decide) ⟨vp_in_nI (by omega) (by decide), ?_⟩)
    rw [nI_clamp (by omega), h4, vl_8m, nI_add, nI_clamp (by omega), h5]
    refine ⟨vp_in_nI (by omega) (by decide), nm_e ?_⟩
    refine vy_push (by omega) ?_
    exact hp _ _ (vl_xS_num hs)
  · rw [show vl_nd k = [1, 1] by unfold vl_nd; rw [if_neg (by omega), if_pos c2]] at hT
    obtain ⟨m, s, rfl, -, t1, hT⟩ := vl_TYc hT
    obtain ⟨n, s, rfl, -, t2, hT⟩ := vl_TYc hT
    have ea : vl_ap zs inp L a k (m :: n :: s) = (1, fun _ => vl_cm k (n.2 0) (m.2 0)) :: s := by
      unfold vl_ap
      rw [if_neg (by omega), if_neg (by omega), if_neg (by omega), if_pos c2]
    rw [ea] at hp
    have h6' : s.length + 2 ≤ 6 := h6'
    refine vy_co_n (h := s.length) (t := 2) c1 (by omega) (by unfold vl_ytk; rw [if_neg (by omega), if_neg (by omega), if_neg (by omega), if_pos c2]) (by omega) (fun Q hQ => vy_as_p c1 c2 hs (t1 rfl) (t2 rfl) h6' hQ) ?_
    exact hp _ _ (vl_xS_num hs.2.2)
  · obtain ⟨m, s, rfl, -, t1, hT⟩ := vl_TYc hT
    obtain ⟨n, s, rfl, -, t2, hT⟩ := vl_TYc hT
    obtain ⟨q, s, rfl, -, t3, hT⟩ := vl_TYc hT
    have h6' : s.length + 3 ≤ 6 := h6'
    refine vy_co_n (h := s.length) (t := 3) (by omega) (by omega) rfl (by omega) (fun Q hQ => vy_as_9 hs (t1 rfl) (t2 rfl) (t3 rfl) h6' hQ) ?_
    exact hp _ _ (vl_xS_num hs.2.2.2)
  · rw [show vl_nd k = [2] by rcases c1 with rfl | rfl | rfl <;> rfl] at hT
    obtain ⟨r, s, rfl, -, -, hT⟩ := vl_TYc hT
    have h6' : s.length + 1 ≤ 6 := h6'
    have ea : vl_ap zs inp L a k (r :: s) = (1, fun _ => if k = 10 then nI r.1 else if k = 11 then vl_sm r.2 r.1 else vl_mx r.2 r.1) :: s := by
      rcases c1 with rfl | rfl | rfl <;> rfl
    rw [ea] at hp
    refine vy_co_n (h := s.length) (t := 1) (by omega) (by omega) (by rcases c1 with rfl | rfl | rfl <;> rfl) (by omega) (fun Q hQ => vy_as_m c1 hs h6' hQ) ?_
    exact hp _ _ (vl_xS_num hs.2)
  · obtain ⟨m, s, rfl, -, t1, hT⟩ := vl_TYc hT
    obtain ⟨n, s, rfl, -, -, hT⟩ := vl_TYc hT
    have h6' : s.length + 2 ≤ 6 := h6'
    refine vy_co_n (h := s.length) (t := 2) (by omega) (by omega) rfl (by omega) (fun Q hQ => vy_as_13 hs (t1 rfl) h6' hQ) ?_
    exact hp _ _ (vl_xS_num hs.2.2)
  · obtain ⟨m, s, rfl, -, t1, hT⟩ := vl_TYc hT
    have h6' : s.length + 1 ≤ 6 := h6'
    have e2 : va (8 * s.length) = m.2 0 := vl_xS_0 hs (t1 rfl)
    unfold wpY_carryOut
    refine br_t (by decide) (vy_takes (t := 1) (by omega) rfl ?_)
    refine nm_r (vl_sb s.length 1) ⟨vp_in_nI (by omega) (by decide), nm_e (br_t (by decide) (br_t (by decide) ?_))⟩
    rw [vl_8m, nI_clamp (by omega), e2]
    refine ⟨vp_in_nI (by omega) (by decide), ?_⟩
    exact vy_upto hs.2 h6' hp
  · obtain ⟨m, s, rfl, -, -, hT⟩ := vl_TYc hT
    obtain ⟨n, s, rfl, -, -, hT⟩ := vl_TYc hT
    have h6' : s.length + 2 ≤ 6 := h6'
    unfold wpY_carryOut
    refine br_t (by decide) (vy_takes (t := 2) (by omega) rfl ?_)
    refine nm_r (vl_sb s.length 2) ⟨vp_in_nI (by omega) (by decide), nm_e (br_t (by decide) (br_f (by decide) (br_t (by decide) ?_)))⟩
    exact vy_join hs h6' hp
  · obtain ⟨r, s, rfl, -, -, hT⟩ := vl_TYc hT
    have h6' : s.length + 1 ≤ 6 := h6'
    unfold wpY_carryOut
    refine br_t (by decide) (vy_takes (t := 1) (by omega) rfl ?_)
    refine nm_r (vl_sb s.length 1) ⟨vp_in_nI (by omega) (by decide), nm_r (e' := nI r.1) (by rw [nI_clamp (by omega)]; exact hs.1.1) (br_t (by decide) (br_f (by decide) (br_f (by decide) (br_t (by decide) ?_))))⟩
    refine vy_turn hs h6' ?_
    intro C hx
    exact br_f (by decide) (br_f (by decide) (nm_r (nI_1 _) (hp _ _ hx)))
  · obtain ⟨r, s, rfl, -, -, hT⟩ := vl_TYc hT
    have h6' : s.length + 1 ≤ 6 := h6'
    unfold wpY_carryOut
    refine br_t (by decide) (vy_takes (t := 1) (by omega) rfl ?_)
    refine nm_r (vl_sb s.length 1) ⟨vp_in_nI (by omega) (by decide), nm_r (e' := nI r.1) (by rw [nI_clamp (by omega)]; exact hs.1.1) (br_t (by decide) (br_f (by decide) (br_f (by decide) (br_f (by decide) ?_))))⟩
    refine br_t (by decide) ?_
    refine vy_scan hs h6' ?_
    intro C hx
    exact br_f (by decide) (nm_r (nI_1 _) (hp _ _ hx))
  · obtain ⟨r, s, rfl, -, -, hT⟩ := vl_TYc hT
    have h6' : s.length + 1 ≤ 6 := h6'
    unfold wpY_carryOut
    refine br_t (by decide) (vy_takes (t := 1) (by omega) rfl ?_)
    refine nm_r (vl_sb s.length 1) ⟨vp_in_nI (by omega) (by decide), nm_r (e' := nI r.1) (by rw [nI_clamp (by omega)]; exact hs.1.1) (br_t (by decide) (br_f (by decide) (br_f (by decide) (br_f (by decide) ?_))))⟩
    refine br_f (by decide) (br_t (by decide) ?_)
    refine vy_sort hs h6' ?_
    intro C hx
    exact nm_r (nI_1 _) (hp _ _ hx)
