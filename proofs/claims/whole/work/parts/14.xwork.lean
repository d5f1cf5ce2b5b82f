/-! part 14: the component's token, and its loop over the tokens -/
variable {tc sc ob vc nt lc : Int32} {ic iz ki op so bb vC vS lC lS lP lK lT mC mS : Nat → Int32} {K : Nat → Nat} {s : List vl_rw} {L : List vl_ln} {post : SX → Prop} {zs : Nat → Nat} {inp : Nat → Nat → Int32}
def vx_in (ic iz : Nat → Int32) (zs : Nat → Nat) (inp : Nat → Nat → Int32) : Prop := ∀ i, i < 3 → iz i = nI (zs i) ∧ zs i ≤ 8 ∧ ∀ p, p < zs i → ic (8 * i + p) = inp i p
theorem vx_simple {k : Nat} {a : Int32} {S F : List Nat} (ho : vl_ok k a (S, F)) (k1 : k < 19) (hT : vl_TY S s) (h6 : S.length ≤ 6) (hF : L.length = F.length) (hF2 : F.length ≤ 2)
    (hs : vl_xS vC vS s) (hL : vl_xL K lC lS lP lK lT mC mS L) (hi : vx_in ic iz zs inp)
    (hp : ∀ C Z, vl_xS C Z (vl_ap zs inp L a k s) → post (tc, sc, ob, nI (vl_ap zs inp L a k s).length, nt, lc, ic, iz, ki, op, so, bb, C, Z, lC, lS, lP, lK, lT, mC, mS)) : wpX_runToken post (tc, sc, ob, nI s.length, nt, lc, ic, iz, ki, op, so, bb, vC, vS, lC, lS, lP, lK, lT, mC, mS) (nI k) a := by
  obtain ⟨o1, o2, ⟨o3, -⟩, o4, o5⟩ := ho
  obtain ⟨R, e, hb, -⟩ := vl_ss_ok o2
  have h6' : s.length ≤ 6 := by rw [vl_TYl hT]; exact h6
  subst e
  have c : k = 0 ∨ k = 1 ∨ k = 2 ∨ k = 3 ∨ k = 4 ∨ k = 5 ∨ k = 6 ∨ k = 7 ∨ k = 8 ∨ k = 9 ∨ k = 10 ∨ k = 11 ∨ k = 12 ∨ k = 13 ∨ k = 14 ∨ k = 15 ∨ k = 16 ∨ k = 17 ∨ k = 18 := by omega
  unfold wpX_runToken
  rcases c with rfl | rfl | rfl | rfl | rfl | rfl | rfl | rfl | rfl | rfl | rfl | rfl | rfl | rfl | rfl | rfl | rfl | rfl | rfl
  · refine br_f (by decide) (br_f (by decide) (br_t (by decide) ?_))
    have o3 : (vl_nd 0 ++ R).length < 6 := o3 (by omega)
    refine vx_push (by rw [vl_TYl hT]; exact o3) ?_
    exact hp _ _ (vl_xS_num hs)
  · refine br_f (by decide) (br_f (by decide) (br_f (by decide) (br_t (by decide) ?_)))
    have o3 : (vl_nd 1 ++ R).length < 6 := o3 (by omega)
    obtain ⟨i, h3, rfl⟩ := o4 rfl
    obtain ⟨z1, z2, z3⟩ := hi i h3
    refine vx_pushInput (by rw [vl_TYl hT]; exact o3) h3 z2 z1 ?_
    intro b h1 h2
    have ea : vl_ap zs inp L (nI i) 1 s = (zs i, inp i) :: s := by
      show (zs (nI i).toNatClampNeg, inp (nI i).toNatClampNeg) :: s = _
      rw [nI_clamp (by omega)]
    rw [ea] at hp
    exact hp _ _ (vl_xS_push hs z2 pk_us (fun p hpp => (h1 p hpp).trans (z3 p hpp)) (fun j hj => h2 j (Or.inl hj)) (fun j hj => pk_un (by omega)))
  · refine br_f (by decide) (br_f (by decide) (br_f (by decide) (br_f (by decide) (br_t (by decide) ?_))))
    have o3 : (vl_nd 2 ++ R).length < 6 := o3 (by omega)
    obtain ⟨i, h3, rfl⟩ := o5 rfl
    have h3 : i < F.length := h3
    unfold wpX_pushElement
    refine vx_elem hL (i := i) (by omega) (by omega) ?_
    refine vx_push (by rw [vl_TYl hT]; exact o3) ?_
    have ea : vl_ap zs inp L (nI i) 2 s = (1, fun _ => vl_el L i) :: s := by
      show (1, fun _ => vl_el L (nI i).toNatClampNeg) :: s = _
      rw [nI_clamp (by omega)]
    rw [ea] at hp
    exact hp _ _ (vl_xS_num hs)
  · refine br_f (by decide) (br_f (by decide) (br_f (by decide) (br_f (by decide) (br_f (by decide) (br_t (by decide) ?_)))))
    obtain ⟨m, s, rfl, -, t1, hT⟩ := vl_TYc hT
    obtain ⟨n, s, rfl, -, t2, hT⟩ := vl_TYc hT
    unfold wX_runToken_200
    exact vx_pair (k := 3) (by omega) (by omega) hs (t1 rfl) (t2 rfl) h6' hp
  · refine br_f (by decide) (br_f (by decide) (br_f (by decide) (br_f (by decide) (br_f (by decide) (br_f (by decide) (br_t (by decide) ?_))))))
    obtain ⟨m, s, rfl, -, t1, hT⟩ := vl_TYc hT
    obtain ⟨n, s, rfl, -, t2, hT⟩ := vl_TYc hT
    unfold wX_runToken_200
    exact vx_pair (k := 4) (by omega) (by omega) hs (t1 rfl) (t2 rfl) h6' hp
  · refine br_f (by decide) (br_f (by decide) (br_f (by decide) (br_f (by decide) (br_f (by decide) (br_f (by decide) (br_f (by decide) (br_t (by decide) ?_)))))))
    obtain ⟨m, s, rfl, -, t1, hT⟩ := vl_TYc hT
    obtain ⟨n, s, rfl, -, t2, hT⟩ := vl_TYc hT
    unfold wX_runToken_200
    exact vx_pair (k := 5) (by omega) (by omega) hs (t1 rfl) (t2 rfl) h6' hp
  · refine br_f (by decide) (br_f (by decide) (br_f (by decide) (br_f (by decide) (br_f (by decide) (br_f (by decide) (br_f (by decide) (br_f (by decide) (br_t (by decide) ?_))))))))
    obtain ⟨m, s, rfl, -, t1, hT⟩ := vl_TYc hT
    obtain ⟨n, s, rfl, -, t2, hT⟩ := vl_TYc hT
    unfold wX_runToken_200
    exact vx_pair (k := 6) (by omega) (by omega) hs (t1 rfl) (t2 rfl) h6' hp
  · refine br_f (by decide) (br_f (by decide) (br_f (by decide) (br_f (by decide) (br_f (by decide) (br_f (by decide) (br_f (by decide) (br_f (by decide) (br_f (by decide) (br_t (by decide) ?_)))))))))
    obtain ⟨m, s, rfl, -, t1, hT⟩ := vl_TYc hT
    obtain ⟨n, s, rfl, -, t2, hT⟩ := vl_TYc hT
    unfold wX_runToken_200
    exact vx_pair (k := 7) (by omega) (by omega) hs (t1 rfl) (t2 rfl) h6' hp
  · refine br_f (by decide) (br_f (by decide) (br_f (by decide) (br_f (by decide) (br_f (by decide) (br_f (by decide) (br_f (by decide) (br_f (by decide) (br_f (by decide) (br_f (by decide) (br_t (by decide) ?_))))))))))
    obtain ⟨m, s, rfl, -, t1, hT⟩ := vl_TYc hT
    obtain ⟨n, s, rfl, -, t2, hT⟩ := vl_TYc hT
    unfold wX_runToken_200
    exact vx_pair (k := 8) (by omega) (by omega) hs (t1 rfl) (t2 rfl) h6' hp
  · refine br_f (by decide) (br_f (by decide) (br_f (by decide) (br_f (by decide) (br_f (by decide) (br_f (by decide) (br_f (by decide) (br_f (by decide) (br_f (by decide) (br_f (by decide) (br_f (by decide) (br_t (by decide) ?_)))))))))))
    obtain ⟨m, s, rfl, -, t1, hT⟩ := vl_TYc hT
    obtain ⟨n, s, rfl, -, t2, hT⟩ := vl_TYc hT
    obtain ⟨q, s, rfl, -, t3, hT⟩ := vl_TYc hT
    exact vx_pick hs (t1 rfl) (t2 rfl) (t3 rfl) h6' hp
  · refine br_f (by decide) (br_f (by decide) (br_f (by decide) (br_f (by decide) (br_f (by decide) (br_f (by decide) (br_f (by decide) (br_f (by decide) (br_f (by decide) (br_f (by decide) (br_f (by decide) (br_f (by decide) (br_t (by decide) ?_))))))))))))
    obtain ⟨r, s, rfl, -, -, hT⟩ := vl_TYc hT
    unfold wX_runToken_135
    exact vx_meas (k := 10) (by omega) hs h6' hp
  · refine br_f (by decide) (br_f (by decide) (br_f (by decide) (br_f (by decide) (br_f (by decide) (br_f (by decide) (br_f (by decide) (br_f (by decide) (br_f (by decide) (br_f (by decide) (br_f (by decide) (br_f (by decide) (br_f (by decide) (br_t (by decide) ?_)))))))))))))
    obtain ⟨r, s, rfl, -, -, hT⟩ := vl_TYc hT
    unfold wX_runToken_135
    exact vx_meas (k := 11) (by omega) hs h6' hp
  · refine br_f (by decide) (br_f (by decide) (br_f (by decide) (br_f (by decide) (br_f (by decide) (br_f (by decide) (br_f (by decide) (br_f (by decide) (br_f (by decide) (br_f (by decide) (br_f (by decide) (br_f (by decide) (br_f (by decide) (br_f (by decide) (br_t (by decide) ?_))))))))))))))
    obtain ⟨r, s, rfl, -, -, hT⟩ := vl_TYc hT
    unfold wX_runToken_135
    exact vx_meas (k := 12) (by omega) hs h6' hp
  · refine br_f (by decide) (br_f (by decide) (br_f (by decide) (br_f (by decide) (br_f (by decide) (br_f (by decide) (br_f (by decide) (br_f (by decide) (br_f (by decide) (br_f (by decide) (br_f (by decide) (br_f (by decide) (br_f (by decide) (br_f (by decide) (br_f (by decide) (br_t (by decide) ?_)))))))))))))))
    obtain ⟨m, s, rfl, -, t1, hT⟩ := vl_TYc hT
    obtain ⟨n, s, rfl, -, -, hT⟩ := vl_TYc hT
    exact vx_at hs (t1 rfl) h6' hp
  · refine br_f (by decide) (br_f (by decide) (br_f (by decide) (br_f (by decide) (br_f (by decide) (br_f (by decide) (br_f (by decide) (br_f (by decide) (br_f (by decide) (br_f (by decide) (br_f (by decide) (br_f (by decide) (br_f (by decide) (br_f (by decide) (br_f (by decide) (br_f (by decide) (br_t (by decide) ?_))))))))))))))))
    obtain ⟨m, s, rfl, -, t1, hT⟩ := vl_TYc hT
    exact vx_upto hs (t1 rfl) h6' hp
  · refine br_f (by decide) (br_f (by decide) (br_f (by decide) (br_f (by decide) (br_f (by decide) (br_f (by decide) (br_f (by decide) (br_f (by decide) (br_f (by decide) (br_f (by decide) (br_f (by decide) (br_f (by decide) (br_f (by decide) (br_f (by decide) (br_f (by decide) (br_f (by decide) (br_f (by decide) (br_t (by decide) ?_)))))))))))))))))
    obtain ⟨m, s, rfl, -, -, hT⟩ := vl_TYc hT
    obtain ⟨n, s, rfl, -, -, hT⟩ := vl_TYc hT
    exact vx_join hs h6' hp
  · refine br_f (by decide) (br_f (by decide) (br_f (by decide) (br_f (by decide) (br_f (by decide) (br_f (by decide) (br_f (by decide) (br_f (by decide) (br_f (by decide) (br_f (by decide) (br_f (by decide) (br_f (by decide) (br_f (by decide) (br_f (by decide) (br_f (by decide) (br_f (by decide) (br_f (by decide) (br_f (by decide) (br_t (by decide) ?_))))))))))))))))))
    obtain ⟨m, s, rfl, -, -, hT⟩ := vl_TYc hT
    exact vx_turn hs h6' hp
  · refine br_f (by decide) (br_f (by decide) (br_f (by decide) (br_f (by decide) (br_f (by decide) (br_f (by decide) (br_f (by decide) (br_f (by decide) (br_f (by decide) (br_f (by decide) (br_f (by decide) (br_f (by decide) (br_f (by decide) (br_f (by decide) (br_f (by decide) (br_f (by decide) (br_f (by decide) (br_f (by decide) (br_f (by decide) (br_t (by decide) ?_)))))))))))))))))))
    obtain ⟨m, s, rfl, -, -, hT⟩ := vl_TYc hT
    exact vx_scan hs h6' hp
  · refine br_f (by decide) (br_f (by decide) (br_f (by decide) (br_f (by decide) (br_f (by decide) (br_f (by decide) (br_f (by decide) (br_f (by decide) (br_f (by decide) (br_f (by decide) (br_f (by decide) (br_f (by decide) (br_f (by decide) (br_f (by decide) (br_f (by decide) (br_f (by decide) (br_f (by decide) (br_f (by decide) (br_f (by decide) (br_f (by decide) (br_t (by decide) ?_))))))))))))))))))))
    obtain ⟨m, s, rfl, -, -, hT⟩ := vl_TYc hT
    exact vx_sort hs h6' hp
/-- the component's working state stands for D -/
def vx_R (K : Nat → Nat) (D : vl_D) (vc nt lc : Int32) (vC vS lC lS lP lK lT mC mS : Nat → Int32) : Prop :=
  (vc = nI D.2.1.length ∧ nt = nI D.1 ∧ lc = nI D.2.2.length) ∧ vl_xS vC vS D.2.1 ∧ vl_xL K lC lS lP lK lT mC mS D.2.2
theorem vx_step {n t : Nat} (h : vl_PG K op n) (hn40 : n ≤ 40) (hn : (vl_st K n).2 = []) (hK : ∀ t, t < n → ki t = nI (K t)) (hi : vx_in ic iz zs inp) (ht : t < n) (hD : vl_DI K n (t, s, L))
    (hs : vl_xS vC vS s) (hL : vl_xL K lC lS lP lK lT mC mS L)
    (hp : ∀ vc nt lc vC vS lC lS lP lK lT mC mS, vx_R K (vl_mv K op n zs inp t s L) vc nt lc vC vS lC lS lP lK lT mC mS → post (nI n, sc, ob, vc, nt, lc, ic, iz, ki, op, so, bb, vC, vS, lC, lS, lP, lK, lT, mC, mS)) :
    wpX_runToken post (nI n, sc, ob, nI s.length, nI (t + 1), nI L.length, ic, iz, ki, op, so, bb, vC, vS, lC, lS, lP, lK, lT, mC, mS) (nI (K t)) (op t) := by
  have hb := vl_bd h t (by omega)
  have hT : vl_TY (vl_st K t).1 s := hD.2.1
  have hLl : L.length = (vl_st K t).2.length := vl_LI_len hD.2.2
  have h6 : s.length ≤ 6 := by rw [vl_TYl hT]; exact hb.1
  have ho := h t ht
  by_cases k1 : K t = 19 ∨ K t = 20
  · obtain ⟨r, s', rfl, h8, hL2, -, -⟩ := vl_mv_b h hn ht hD k1
    rw [List.length_cons] at h6
    unfold wpX_runToken
    have go : wX_runToken_185 post (nI (K t)) (nI n) sc ob (nI (s'.length + 1)) (nI (t + 1)) (nI L.length) ic iz ki op so bb vC vS lC lS lP lK lT mC mS := by
      unfold wX_runToken_185
      by_cases h0 : r.1 = 0
      · have e : vl_mv K op n zs inp t (r :: s') L = (vl_E K n (t + 1) 1, r :: s', L) := by
          unfold vl_mv
          rw [if_pos k1]
          exact if_pos h0
        rw [e] at hp
        exact vx_begin0 hn40 (fun t ht => ⟨hK t ht, (h t ht).1⟩) (by omega) hs h6 h0 (hp _ _ _ _ _ _ _ _ _ _ _ _ ⟨⟨rfl, rfl, rfl⟩, hs, hL⟩)
      · have e : vl_mv K op n zs inp t (r :: s') L = (t + 1, s', (t, r.1, r.2, 0, 0, fun _ => 0) :: L) := by
          unfold vl_mv
          rw [if_pos k1]
          exact if_neg h0
        rw [e] at hp
        exact vx_begin1 hs hL h6 hL2 h0 rfl (fun a1 a2 a3 a4 a5 a7 hx => hp _ _ _ _ _ _ _ _ _ _ _ _ ⟨⟨rfl, rfl, rfl⟩, hs.2, hx⟩)
    rcases k1 with k1 | k1
    · rw [k1] at go ⊢
      refine br_f (by decide) (br_f (by decide) (br_f (by decide) (br_f (by decide) (br_f (by decide) (br_f (by decide) (br_f (by decide) (br_f (by decide) (br_f (by decide) (br_f (by decide) (br_f (by decide) (br_f (by decide) (br_f (by decide) (br_f (by decide) (br_f (by decide) (br_f (by decide) (br_f (by decide) (br_f (by decide) (br_f (by decide) (br_f (by decide) (br_f (by decide) (br_t (by decide) ?_)))))))))))))))))))))
      exact go
    · rw [k1] at go ⊢
      refine br_f (by decide) (br_f (by decide) (br_f (by decide) (br_f (by decide) (br_f (by decide) (br_f (by decide) (br_f (by decide) (br_f (by decide) (br_f (by decide) (br_f (by decide) (br_f (by decide) (br_f (by decide) (br_f (by decide) (br_f (by decide) (br_f (by decide) (br_f (by decide) (br_f (by decide) (br_f (by decide) (br_f (by decide) (br_f (by decide) (br_f (by decide) (br_f (by decide) (br_t (by decide) ?_))))))))))))))))))))))
      exact go
  · by_cases k2 : K t = 21
    · obtain ⟨v, s', b, m, f, e, c, g, L', rfl, hv, rfl, ⟨b1, b2, b3⟩, -, -⟩ := vl_mv_e h ht hD k2
      rw [List.length_cons] at h6 hLl
      have hb2 := hb.2
      unfold wpX_runToken
      rw [k2]
      refine br_f (by decide) (br_f (by decide) (br_f (by decide) (br_f (by decide) (br_f (by decide) (br_f (by decide) (br_f (by decide) (br_f (by decide) (br_f (by decide) (br_f (by decide) (br_f (by decide) (br_f (by decide) (br_f (by decide) (br_f (by decide) (br_f (by decide) (br_f (by decide) (br_f (by decide) (br_f (by decide) (br_f (by decide) (br_f (by decide) (br_f (by decide) (br_f (by decide) (br_f (by decide) (br_t (by decide) ?_)))))))))))))))))))))))
      refine vx_endPass hs hv hL b2 (by omega) (by omega) ?_ ?_
      · intro h0 P M Q hx
        have e : vl_mv K op n zs inp t (v :: s') ((b, m, f, e, c, g) :: L') = (b + 1, s', (b, m, f, e + 1, (vl_mk K b c f g e (v.2 0)).1, (vl_mk K b c f g e (v.2 0)).2) :: L') := by
          unfold vl_mv
          rw [if_neg k1, if_pos k2]
          exact if_pos h0
        rw [e] at hp
        exact hp _ _ _ _ _ _ _ _ _ _ _ _ ⟨⟨rfl, rfl, rfl⟩, hs.2, hx⟩
      · intro h0 C Z P M Q hx hy
        have e : vl_mv K op n zs inp t (v :: s') ((b, m, f, e, c, g) :: L') = (t + 1, vl_mk K b c f g e (v.2 0) :: s', L') := by
          unfold vl_mv
          rw [if_neg k1, if_pos k2]
          exact if_neg h0
        rw [e] at hp
        exact hp _ _ _ _ _ _ _ _ _ _ _ _ ⟨⟨rfl, rfl, rfl⟩, hx, hy⟩
    · have e : vl_mv K op n zs inp t s L = (t + 1, vl_ap zs inp L (op t) (K t) s, L) := by
        unfold vl_mv
        rw [if_neg k1, if_neg k2]
      rw [e] at hp
      have h22 := ho.1
      refine vx_simple (S := (vl_st K t).1) (F := (vl_st K t).2) ho (by omega) hT hb.1 hLl hb.2 hs hL hi ?_
      intro C Z hx
      exact hp _ _ _ _ _ _ _ _ _ _ _ _ ⟨⟨rfl, rfl, rfl⟩, hx, hL⟩
theorem vx_loop {n : Nat} (h : vl_PG K op n) (hn40 : n ≤ 40) (hn : (vl_st K n).2 = []) (hK : ∀ t, t < n → ki t = nI (K t)) (hz : ∀ i, i < 3 → zs i ≤ 8) (hi : vx_in ic iz zs inp) :
    ∀ f q D, vl_DI K n D → vl_pt K n D.2.2 D.1 ≤ f → q + f ≤ 2560 → ∀ vc nt lc vC vS lC lS lP lK lT mC mS, vx_R K D vc nt lc vC vS lC lS lP lK lT mC mS →
    (∀ vc nt lc vC vS lC lS lP lK lT mC mS, vx_R K (vl_run K op n zs inp f D) vc nt lc vC vS lC lS lP lK lT mC mS → post (nI n, sc, ob, vc, nt, lc, ic, iz, ki, op, so, bb, vC, vS, lC, lS, lP, lK, lT, mC, mS)) →
    wX_workOut_17 post (f + 1) (nI q) (nI n) sc ob vc nt lc ic iz ki op so bb vC vS lC lS lP lK lT mC mS := by
  intro f
  induction f with
  | zero =>
    intro q D hD hp hq vc nt lc vC vS lC lS lP lK lT mC mS hR hpost
    obtain ⟨t, s, L⟩ := D
    have ht : ¬ t < n := fun ht => by
      have h1 := (vl_mv_ok (zs := zs) (inp := inp) h hn hz ht hD).2
      have h2 : vl_pt K n L t ≤ 0 := hp
      omega
    have ht2 : t ≤ n := hD.1
    obtain ⟨⟨rfl, rfl, rfl⟩, h3, h4⟩ := hR
    refine pk_le 2560 q ?_ ?_ rfl rfl (by omega) (by omega)
    · intro _
      exact hpost _ _ _ _ _ _ _ _ _ _ _ _ ⟨⟨rfl, rfl, rfl⟩, h3, h4⟩
    · intro _
      refine br_t (nI_le (by omega) (by show t < 2 ^ 31; omega)) ?_
      exact hpost _ _ _ _ _ _ _ _ _ _ _ _ ⟨⟨rfl, rfl, rfl⟩, h3, h4⟩
  | succ f ih =>
    intro q D hD hp hq vc nt lc vC vS lC lS lP lK lT mC mS hR hpost
    obtain ⟨t, s, L⟩ := D
    have ht2 : t ≤ n := hD.1
    obtain ⟨⟨rfl, rfl, rfl⟩, h3, h4⟩ := hR
    refine br_f (nI_ge (b := 2560) (by omega) (by decide)) ?_
    by_cases ht : t < n
    · have hm := vl_mv_ok (zs := zs) (inp := inp) h hn hz ht hD
      have er : vl_run K op n zs inp (f + 1) (t, s, L) = vl_run K op n zs inp f (vl_mv K op n zs inp t s L) := if_pos ht
      rw [er] at hpost
      have hp : vl_pt K n L t ≤ f + 1 := hp
      refine br_f (nI_ge (by show t < n; exact ht) (by omega)) ?_
      refine nm_r (nI_1 t) ⟨vp_in_nI (by show t < 40; omega) (by decide), vp_in_nI (by show t < 40; omega) (by decide), ?_⟩
      have ec : (nI t).toNatClampNeg = t := nI_clamp (by omega)
      show wpX_runToken _ _ (ki (nI t).toNatClampNeg) (op (nI t).toNatClampNeg)
      rw [ec, hK t ht]
      refine vx_step h hn40 hn hK hi ht hD h3 h4 ?_
      intro vc' nt' lc' vC' vS' lC' lS' lP' lK' lT' mC' mS' hR'
      exact nm_r (nI_1 q) (ih (q + 1) _ hm.1 (by omega) (by omega) _ _ _ _ _ _ _ _ _ _ _ _ hR' hpost)
    · have er : vl_run K op n zs inp (f + 1) (t, s, L) = (t, s, L) := if_neg ht
      rw [er] at hpost
      refine br_t (nI_le (by show n ≤ t; omega) (by show t < 2 ^ 31; omega)) ?_
      exact hpost _ _ _ _ _ _ _ _ _ _ _ _ ⟨⟨rfl, rfl, rfl⟩, h3, h4⟩
theorem vx_workOut {n : Nat} {r : vl_rw} (h : vl_PG K op n) (hn40 : n ≤ 40) (hn : (vl_st K n).2 = []) (hK : ∀ t, t < n → ki t = nI (K t)) (hi : vx_in ic iz zs inp)
    (hr : vl_run K op n zs inp 2560 (0, [], []) = (n, [r], []))
    (hp : ∀ vc nt lc vC vS lC lS lP lK lT mC mS, vS 0 = nI r.1 → (∀ p, p < r.1 → vC p = r.2 p) → post (nI n, sc, ob, vc, nt, lc, ic, iz, ki, op, so, bb, vC, vS, lC, lS, lP, lK, lT, mC, mS)) : wpX_workOut post (nI n, sc, ob, vc, nt, lc, ic, iz, ki, op, so, bb, vC, vS, lC, lS, lP, lK, lT, mC, mS) := by
  have hD : vl_DI K n (0, [], []) := ⟨Nat.zero_le _, True.intro, rfl⟩
  have hpt : vl_pt K n [] 0 ≤ 2560 := by
    show 0 + 64 * (n - 0) ≤ 2560
    omega
  unfold wpX_workOut
  refine ⟨2560 + 1, vx_loop (zs := zs) (inp := inp) h hn40 hn hK (fun i h3 => (hi i h3).2.1) hi 2560 0 (0, [], []) hD hpt (by omega) 0 0 0 vC vS lC lS lP lK lT mC mS ⟨⟨rfl, rfl, rfl⟩, True.intro, True.intro⟩ ?_⟩
  intro vc nt lc vC vS lC lS lP lK lT mC mS hR
  rw [hr] at hR
  obtain ⟨-, ⟨⟨g1, g2, g3⟩, -⟩, -⟩ := hR
  refine hp _ _ _ _ _ _ _ _ _ _ _ _ g1 ?_
  intro p hpp
  have := g3 p hpp
  rw [show 8 * ([] : List vl_rw).length + p = p by show 8 * 0 + p = p; omega] at this
  exact this
