/-! part 13: the component's lanes -/
variable {tc sc ob vc nt lc : Int32} {ic iz ki op so bb vC vS lC lS lP lK lT mC mS : Nat → Int32} {K : Nat → Nat} {s : List vl_rw} {L : List vl_ln} {post : SX → Prop}
theorem vx_bb {post : Int32 → Prop} {k : Nat} (hk : k < 22) (h1 : k = 19 ∨ k = 20 → post 1) (h2 : ¬ (k = 19 ∨ k = 20) → post 0) : wpX_beginsBlock post (tc, sc, ob, vc, nt, lc, ic, iz, ki, op, so, bb, vC, vS, lC, lS, lP, lK, lT, mC, mS) (nI k) := by
  unfold wpX_beginsBlock
  refine pk_eq k 19 (fun e => h1 (Or.inl e)) (fun e => pk_eq k 20 (fun e2 => h1 (Or.inr e2)) (fun e2 => h2 (by omega)))
theorem vx_skip {n : Nat} (hn : n ≤ 40) (hK : ∀ t, t < n → ki t = nI (K t) ∧ K t < 22) : ∀ d t o, t + d = n → o + d ≤ 100 → post (tc, sc, ob, vc, nI (vl_sk K d t o), lc, ic, iz, ki, op, so, bb, vC, vS, lC, lS, lP, lK, lT, mC, mS) → wX_skipBlock_12 post (nI n) tc sc ob vc nt lc ic iz ki op so bb vC vS lC lS lP lK lT mC mS (d + 1) (nI o) (nI t) := by
  intro d
  induction d with
  | zero =>
    intro t o ht ho hp
    exact br_t (nI_le (by omega) (by omega)) hp
  | succ d ih =>
    intro t o ht ho hp
    obtain ⟨e1, e2⟩ := hK t (by omega)
    refine br_f (nI_ge (by omega) (by omega)) ?_
    cases o with
    | zero => exact br_t (by decide) hp
    | succ o =>
      refine br_f (nI_nle (by omega) (by omega)) ⟨vp_in_nI (by omega) (by decide), ?_⟩
      rw [nI_clamp (by omega), e1]
      have hp : post (tc, sc, ob, vc, nI (vl_sk K d (t + 1) (if K t = 19 ∨ K t = 20 then o + 2 else if K t = 21 then o else o + 1)), lc, ic, iz, ki, op, so, bb, vC, vS, lC, lS, lP, lK, lT, mC, mS) := hp
      refine vx_bb e2 ?_ ?_
      · intro hk
        rw [if_pos hk] at hp
        exact br_f (by decide) (nm_r (nI_1 _) (nm_r (nI_1 _) (ih (t + 1) (o + 2) (by omega) (by omega) hp)))
      · intro hk
        rw [if_neg hk] at hp
        refine br_t rfl ⟨vp_in_nI (by omega) (by decide), ?_⟩
        refine pk_eq (K t) 21 ?_ ?_
        · intro hk2
          rw [if_pos hk2] at hp
          exact nm_r (pk_m1 o) (nm_r (nI_1 _) (ih (t + 1) o (by omega) (by omega) hp))
        · intro hk2
          rw [if_neg hk2] at hp
          exact nm_r (nI_1 _) (ih (t + 1) (o + 1) (by omega) (by omega) hp)
theorem vx_begin0 {n t : Nat} {a : Int32} {r : vl_rw} (hn : n ≤ 40) (hK : ∀ t, t < n → ki t = nI (K t) ∧ K t < 22) (ht : t + 1 ≤ n) (hs : vl_xS vC vS (r :: s)) (hl : s.length + 1 ≤ 6) (h0 : r.1 = 0)
    (hp : post (nI n, sc, ob, nI (s.length + 1), nI (vl_E K n (t + 1) 1), lc, ic, iz, ki, op, so, bb, vC, vS, lC, lS, lP, lK, lT, mC, mS)) : wpX_beginLane post (nI n, sc, ob, nI (s.length + 1), nI (t + 1), lc, ic, iz, ki, op, so, bb, vC, vS, lC, lS, lP, lK, lT, mC, mS) a := by
  obtain ⟨⟨g1, g2, g3⟩, g4⟩ := hs
  unfold wpX_beginLane
  simp (disch := omega) only [nI_pred, nI_clamp, vl_in, forall_eq, true_and, g1]
  refine br_t (by rw [h0]; rfl) ?_
  unfold wpX_skipBlock
  exact ⟨n - (t + 1) + 1, vx_skip hn hK (n - (t + 1)) (t + 1) 1 (by omega) (by omega) hp⟩
theorem vx_begin1 {t k : Nat} {r : vl_rw} (hs : vl_xS vC vS (r :: s)) (hL : vl_xL K lC lS lP lK lT mC mS L) (hl : s.length + 1 ≤ 6) (hL2 : L.length < 2) (h0 : ¬ r.1 = 0) (hk : K t = k)
    (hp : ∀ a1 a2 a3 a4 a5 a7, vl_xL K a1 a2 a3 a4 a5 mC a7 ((t, r.1, r.2, 0, 0, fun _ => 0) :: L) → post (tc, sc, ob, nI s.length, nI (t + 1), nI (L.length + 1), ic, iz, ki, op, so, bb, vC, vS, a1, a2, a3, a4, a5, mC, a7)) :
    wpX_beginLane post (tc, sc, ob, nI (s.length + 1), nI (t + 1), nI L.length, ic, iz, ki, op, so, bb, vC, vS, lC, lS, lP, lK, lT, mC, mS) (nI k) := by
  obtain ⟨⟨g1, g2, g3⟩, g4⟩ := hs
  unfold wpX_beginLane
  simp (disch := omega) only [nI_pred, nI_clamp, vl_in, forall_eq, true_and, g1]
  refine br_f (by rw [vl_z (by omega)]; exact h0) ?_
  refine ⟨r.1 + 1, vl_copy (W := fun q p b => wX_beginLane_32 post (nI k) (nI s.length) (nI r.1) (nI L.length) tc sc ob (nI (s.length + 1)) (nI (t + 1)) (nI L.length) q (nI p) ic iz ki op so bb vC vS (b) lS lP lK lT mC mS) (src := r.2) (a := lC) (o := 8 * L.length) (c := r.1) ?_ ?_⟩
  · intro q b h1 h2
    refine br_t (nI_le (Nat.le_refl _) (by omega)) ?_
    simp (disch := omega) only [nI_clamp, vl_in, forall_eq, true_and, nI_1, nI_pred]
    refine hp _ _ _ _ _ _ ⟨⟨⟨g2, by omega, Nat.le_refl _⟩, pk_us, pk_us, by rw [pk_us, hk], pk_us, pk_us, h1, fun p hpp => by omega⟩, ?_⟩
    exact vl_xL_congr hL (fun j hj => h2 j (Or.inl hj)) (fun j hj => pk_un (by omega)) (fun j hj => pk_un (by omega)) (fun j hj => pk_un (by omega)) (fun j hj => pk_un (by omega)) (fun j hj => rfl) (fun j hj => pk_un (by omega))
  · intro q p b hpc h1 h2 h3
    refine br_f (nI_ge hpc (by omega)) ?_
    simp (disch := omega) only [vl_m8, nI_add, nI_clamp, vl_in, forall_eq, true_and, nI_1]
    rw [g3 p hpc]
    exact h3
theorem vx_add {j c : Nat} {v : Int32} (hj : j < 2) (hc : c < 8) (hM : mS j = nI c) (hp : post (tc, sc, ob, vc, nt, lc, ic, iz, ki, op, so, bb, vC, vS, lC, lS, lP, lK, lT, upd mC (8 * j + c) v, upd mS j (nI (c + 1)))) : wpX_addMade post (tc, sc, ob, vc, nt, lc, ic, iz, ki, op, so, bb, vC, vS, lC, lS, lP, lK, lT, mC, mS) (nI j) v := by
  unfold wpX_addMade
  simp (disch := omega) only [nI_clamp, hM, vl_m8, nI_add, vl_in, forall_eq, true_and, nI_1]
  exact hp
theorem vx_endLane {j c : Nat} {g : Nat → Int32} (hj : j < 2) (hc : c ≤ 8) (hM : mS j = nI c) (hG : ∀ p, p < c → mC (8 * j + p) = g p) (hs : vl_xS vC vS s) (hl : s.length < 6)
    (hp : ∀ C Z, vl_xS C Z ((c, g) :: s) → post (tc, sc, ob, nI (s.length + 1), nt, nI j, ic, iz, ki, op, so, bb, C, Z, lC, lS, lP, lK, lT, mC, mS)) : wpX_endLane post (tc, sc, ob, nI s.length, nt, nI (j + 1), ic, iz, ki, op, so, bb, vC, vS, lC, lS, lP, lK, lT, mC, mS) (nI j) := by
  unfold wpX_endLane
  simp (disch := omega) only [nI_clamp, hM, vl_m8, vl_in, forall_eq, true_and]
  refine ⟨c + 1, vl_copy (W := fun q p b => wX_endLane_18 post (nI j) (nI (8 * s.length)) (nI c) tc sc ob (nI s.length) nt (nI (j + 1)) q (nI p) ic iz ki op so bb (b) vS lC lS lP lK lT mC mS) (src := g) (a := vC) (o := 8 * s.length) (c := c) ?_ ?_⟩
  · intro q b h1 h2
    refine br_t (nI_le (Nat.le_refl _) (by omega)) ?_
    simp (disch := omega) only [nI_clamp, vl_in, forall_eq, true_and, nI_1, nI_pred]
    exact hp _ _ (vl_xS_push hs hc pk_us h1 (fun j hj => h2 j (Or.inl hj)) (fun j hj => pk_un (by omega)))
  · intro q p b hpc h1 h2 h3
    refine br_f (nI_ge hpc (by omega)) ?_
    simp (disch := omega) only [vl_m8, nI_add, nI_clamp, vl_in, forall_eq, true_and, nI_1]
    rw [hG p hpc]
    exact h3
theorem vx_ep48 {b m e c : Nat} {f g : Nat → Int32} (hL2 : L.length < 2) (hL : vl_xL K lC lS lP lK lT mC mS L) (q1 : lS L.length = nI m) (q2 : lP L.length = nI e) (q3 : lK L.length = nI (K b)) (q4 : lT L.length = nI (b + 1))
    (q5 : mS L.length = nI c) (q6 : ∀ p, p < m → lC (8 * L.length + p) = f p) (q7 : ∀ p, p < c → mC (8 * L.length + p) = g p) (hm : m ≤ 8) (he : e < m) (hc : c ≤ e + 1) (hs : vl_xS vC vS s) (hl : s.length < 6)
    (h1 : e + 1 < m → ∀ P, vl_xL K lC lS P lK lT mC mS ((b, m, f, e + 1, c, g) :: L) → post (tc, sc, ob, nI s.length, nI (b + 1), nI (L.length + 1), ic, iz, ki, op, so, bb, vC, vS, lC, lS, P, lK, lT, mC, mS))
    (h2 : ¬ e + 1 < m → ∀ C Z P, vl_xS C Z ((c, g) :: s) → vl_xL K lC lS P lK lT mC mS L → post (tc, sc, ob, nI (s.length + 1), nt, nI L.length, ic, iz, ki, op, so, bb, C, Z, lC, lS, P, lK, lT, mC, mS)) :
    wX_endPass_48 post (nI L.length) tc sc ob (nI s.length) nt (nI (L.length + 1)) ic iz ki op so bb vC vS lC lS lP lK lT mC mS := by
  unfold wX_endPass_48
  simp (disch := omega) only [nI_clamp, vl_in, forall_eq, true_and, q2, nI_1, pk_us, q1, q4]
  have hL' : vl_xL K lC lS (upd lP L.length (nI (e + 1))) lK lT mC mS L := vl_xL_congr hL (fun _ _ => rfl) (fun _ _ => rfl) (fun j hj => pk_un (by omega)) (fun _ _ => rfl) (fun _ _ => rfl) (fun _ _ => rfl) (fun _ _ => rfl)
  refine pk_le m (e + 1) ?_ ?_ rfl rfl (by omega) (by omega)
  · intro hz
    exact vx_endLane hL2 (by omega) q5 q7 hs hl (fun C Z hx => h2 (by omega) C Z _ hx hL')
  · intro hz
    exact h1 hz _ ⟨⟨⟨hm, hz, hc⟩, q1, pk_us, q3, q4, q5, q6, q7⟩, hL'⟩
theorem vx_endPass {b m e c : Nat} {f g : Nat → Int32} {v : vl_rw} (hs : vl_xS vC vS (v :: s)) (hv : v.1 = 1) (hL : vl_xL K lC lS lP lK lT mC mS ((b, m, f, e, c, g) :: L)) (hK : K b = 19 ∨ K b = 20) (hl : s.length < 6) (hL2 : L.length < 2)
    (h1 : e + 1 < m → ∀ P M Q, vl_xL K lC lS P lK lT M Q ((b, m, f, e + 1, (vl_mk K b c f g e (v.2 0)).1, (vl_mk K b c f g e (v.2 0)).2) :: L) → post (tc, sc, ob, nI s.length, nI (b + 1), nI (L.length + 1), ic, iz, ki, op, so, bb, vC, vS, lC, lS, P, lK, lT, M, Q))
    (h2 : ¬ e + 1 < m → ∀ C Z P M Q, vl_xS C Z (vl_mk K b c f g e (v.2 0) :: s) → vl_xL K lC lS P lK lT M Q L → post (tc, sc, ob, nI (s.length + 1), nt, nI L.length, ic, iz, ki, op, so, bb, C, Z, lC, lS, P, lK, lT, M, Q)) :
    wpX_endPass post (tc, sc, ob, nI (s.length + 1), nt, nI (L.length + 1), ic, iz, ki, op, so, bb, vC, vS, lC, lS, lP, lK, lT, mC, mS) := by
  have e0 : vC (8 * s.length) = v.2 0 := vl_xS_0 hs hv
  have hL0 := hL
  obtain ⟨⟨⟨b1, b2, b3⟩, q1, q2, q3, q4, q5, q6, q7⟩, hL'⟩ := hL
  -- a value made
  have made : ∀ w, vl_mk K b c f g e (v.2 0) = (c + 1, upd g c w) → wpX_addMade (fun u => match u with | (tc, sc, ob, vc, nt, lc, ic, iz, ki, op, so, bb, vC, vS, lC, lS, lP, lK, lT, mC, mS) => wX_endPass_48 post (nI L.length) tc sc ob vc nt lc ic iz ki op so bb vC vS lC lS lP lK lT mC mS) (tc, sc, ob, nI s.length, nt, nI (L.length + 1), ic, iz, ki, op, so, bb, vC, vS, lC, lS, lP, lK, lT, mC, mS) (nI L.length) w := by
    intro w ew
    rw [ew] at h1 h2
    refine vx_add hL2 (by omega) q5 ?_
    refine vx_ep48 (c := c + 1) (g := upd g c w) hL2 ?_ q1 q2 q3 q4 pk_us q6 ?_ b1 b2 (by omega) hs.2 hl (fun hz P hx => h1 hz P _ _ hx) (fun hz C Z P hx hy => h2 hz C Z P _ _ hx hy)
    · exact vl_xL_congr hL' (fun _ _ => rfl) (fun _ _ => rfl) (fun _ _ => rfl) (fun _ _ => rfl) (fun _ _ => rfl) (fun j hj => pk_un (by omega)) (fun j hj => pk_un (by omega))
    · intro p hp
      by_cases ep : p = c
      · subst ep; rw [pk_us, pk_us]
      · rw [pk_un (by omega), pk_un ep]; exact q7 p (by omega)
  unfold wpX_endPass
  simp (disch := omega) only [nI_pred, forall_eq]
  refine vx_pop (h := s.length) (by omega) ?_
  dsimp only
  rw [e0]
  refine ⟨vp_in_nI hL2 (by decide), ?_⟩
  rw [nI_clamp (by omega), q3]
  refine pk_eq (K b) 19 ?_ ?_
  · intro hk
    exact made (v.2 0) (by unfold vl_mk; rw [if_neg (by omega), if_neg (by omega)])
  · intro hk
    have hk : K b = 20 := by omega
    refine br_c ?_ ?_
    · intro z
      have ew : vl_mk K b c f g e (v.2 0) = (c, g) := by unfold vl_mk; rw [if_pos ⟨hk, z⟩]
      rw [ew] at h1 h2
      exact vx_ep48 (c := c) (g := g) hL2 hL' q1 q2 q3 q4 q5 q6 q7 b1 b2 (by omega) hs.2 hl (fun hz P hx => h1 hz P _ _ hx) (fun hz C Z P hx hy => h2 hz C Z P _ _ hx hy)
    · intro z
      refine vx_elem hL0 (i := L.length) (by rw [List.length_cons]; omega) (by rw [List.length_cons]; omega) ?_
      have ee : vl_el ((b, m, f, e, c, g) :: L) L.length = f e := if_pos rfl
      rw [ee]
      exact made (f e) (by unfold vl_mk; rw [if_neg (fun w => z w.2), if_pos hk])
