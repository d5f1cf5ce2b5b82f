/-! part 24: store, and the tokens -/
variable {n : Nat} {K zs : Nat → Nat} {tc sc ob vc nt lc : Int32} {ic iz ki op so bb vC vS lC lS lP lK lT mC mS : Nat → Int32} {cn hg oc tp dp : Int32} {sz inq kq aq ra fl ln va bg mn rs el os ou : Nat → Int32}
theorem i_vc_store {k : Nat} {u : SX} {v : SY} (I : i_Rel k u v) (hk : k + 4 ≤ 2048) (v1 : Int32) : wpX_store (fun r u' => wpY_store (fun r' v' => r' = r ∧ i_Rel (k + 4) u' v') v v1) u v1 := by
  obtain ⟨n, K, zs, vc, nt, lc, ic, iz, ki, op, so, bb, vC, vS, lC, lS, lP, lK, lT, mC, mS, hg, oc, tp, dp, inq, ra, fl, ln, va, bg, mn, rs, el, os, ou, rfl, rfl, hI⟩ := I
  have hI0 := hI
  obtain ⟨a1, a2, a3, a4, a5, a6⟩ := hI
  unfold wpX_store wpY_store
  refine vx_isInput ?_ ?_
  · intro w1 w2
    obtain ⟨i, hi, rfl⟩ := vl_3 w1 w2
    refine br_f (by decide) ?_
    refine vx_whole a2 ?_ ?_
    · intro hw
      obtain ⟨r, h8, hX, hY⟩ := vr_res hI0 hw
      refine br_f (by decide) ?_
      refine hX _ _ _ _ _ _ _ _ _ _ _ _ _ _ _ _ _ ?_
      intro vc' nt' lc' vC' vS' lC' lS' lP' lK' lT' mC' mS' e1 e2
      refine nm_r e1 ⟨r.1 + 1, vl_copy (W := fun q p b => wX_store_33 _ (nI i) (nI r.1) _ _ _ _ _ _ q (nI p) b _ _ _ _ _ _ _ _ _ _ _ _ _ _) (src := r.2) (a := ic) (o := 8 * i) (c := r.1) ?_ ?_⟩
      · intro q b h1 h2
        refine br_t (nI_le (Nat.le_refl _) (by omega)) ⟨vp_in_nI hi (by decide), ?_⟩
        rw [nI_clamp (by omega)]
        refine nm_e ?_
        refine vy_in1 hi (br_f (by decide) ?_)
        refine vy_whole a2 a1 a3 ?_ ?_
        · intro _ hg' oc' ra' fl' q1
          refine br_f (by decide) ?_
          refine hY _ _ _ _ _ _ _ _ _ _ _ _ _ _ _ ?_
          intro tp' dp' ln' va' bg' mn' rs' el' os' ou' e3 e4
          refine ⟨vp_in_nI hi (by decide), ?_⟩
          rw [e3]
          refine nm_e ⟨8 + 1, vl_copy (W := fun q p b' => wY_store_38 _ (nI i) _ _ _ _ _ q (nI p) _ b' _ _ _ _ _ _ _ _ _ _ _ _) (src := va') (a := inq) (o := 8 * i) (c := 8) ?_ ?_⟩
          · intro q b' g1 g2
            refine br_t (by decide) ⟨vp_in_nI hi (by decide), ?_⟩
            rw [nI_clamp (by omega), pk_us]
            refine ⟨rfl, vr_mk (zs := fun j => if j = i then r.1 else zs j) ⟨a1, a2, a3, vl_zs a4 h8 pk_us (fun j hj => pk_un hj) ?_ (fun j hj => h2 j (by omega)) (fun j hj => g2 j hj), a5, a6⟩⟩
            intro p hp
            rw [h1 p hp, g1 p (by omega), e4 p hp]
          · intro q p b' hpc g1 g2 h3
            refine br_f (nI_ge (b := 8) hpc (by decide)) ?_
            simp (disch := omega) only [vl_8m, nI_add, nI_clamp, vl_in, forall_eq, true_and, nI_1]
            exact h3
        · intro hw2; exact absurd hw hw2
      · intro q p b hpc h1 h2 h3
        refine br_f (nI_ge hpc (by omega)) ⟨vp_in_nI (by omega) (by decide), ?_⟩
        rw [vl_m8, nI_add, nI_clamp (by omega), nI_clamp (by omega), e2 p hpc]
        exact ⟨vp_in_nI (by omega) (by decide), nm_e (nm_r (nI_1 _) h3)⟩
    · intro hw
      refine br_t rfl ?_
      refine vy_in1 hi (br_f (by decide) ?_)
      refine vy_whole a2 a1 a3 ?_ ?_
      · intro hw2; exact absurd hw2 hw
      · intro _ hg' oc' ra' fl'
        exact br_t rfl ⟨rfl, vr_mk hI0⟩
  · intro w
    exact br_t rfl (vy_in0 w (br_t rfl ⟨rfl, vr_mk hI0⟩))
theorem i_vc_drop {k : Nat} {u : SX} {v : SY} (I : i_Rel k u v) (hk : k + 4 ≤ 2048) : wpX_drop (fun r u' => wpY_drop (fun r' v' => r' = r ∧ i_Rel (k + 4) u' v') v) u := by
  obtain ⟨n, K, zs, vc, nt, lc, ic, iz, ki, op, so, bb, vC, vS, lC, lS, lP, lK, lT, mC, mS, hg, oc, tp, dp, inq, ra, fl, ln, va, bg, mn, rs, el, os, ou, rfl, rfl, hI⟩ := I
  have hI0 := hI
  obtain ⟨a1, a2, a3, a4, a5, a6⟩ := hI
  unfold wpX_drop wpY_drop
  cases n with
  | zero => exact br_t rfl (br_t rfl ⟨rfl, vr_mk hI0⟩)
  | succ n =>
    refine br_f (nI_ne0 (by omega) (by omega)) (nm_r (nI_pred n) ?_)
    have a2' : vl_PG K op n := fun t ht => a2 t (by omega)
    refine vx_rebuild a2' (by omega) (fun t ht => a3 t (by omega)) ?_
    intro a b q1 q2
    refine br_f (nI_ne0 (by omega) (by omega)) (nm_r (nI_pred n) ⟨rfl, ?_⟩)
    exact vr_mk ⟨by omega, a2', fun t ht => a3 t (by omega), a4, q1, q2⟩
theorem i_vc_clear {k : Nat} {u : SX} {v : SY} (I : i_Rel k u v) (hk : k + 4 ≤ 2048) : wpX_clear (fun r u' => wpY_clear (fun r' v' => r' = r ∧ i_Rel (k + 4) u' v') v) u := by
  obtain ⟨n, K, zs, vc, nt, lc, ic, iz, ki, op, so, bb, vC, vS, lC, lS, lP, lK, lT, mC, mS, hg, oc, tp, dp, inq, ra, fl, ln, va, bg, mn, rs, el, os, ou, rfl, rfl, hI⟩ := I
  obtain ⟨a1, a2, a3, a4, a5, a6⟩ := hI
  unfold wpX_clear wpY_clear
  have a2' : vl_PG K op 0 := fun t ht => absurd ht (Nat.not_lt_zero t)
  refine vx_rebuild (n := 0) a2' (by omega) (fun t ht => absurd ht (Nat.not_lt_zero t)) ?_
  intro a b q1 q2
  exact ⟨rfl, vr_mk (n := 0) ⟨by omega, a2', fun t ht => absurd ht (Nat.not_lt_zero t), a4, q1, q2⟩⟩
/-- an element's lane is there -/
def vl_eo (k : Nat) (b : Int32) (F : List Nat) : Prop := k = 2 → ∃ i, i < F.length ∧ b = nI i
theorem vx_tok43 {post : Int32 → SX → Prop} {k : Nat} {b : Int32} {S F : List Nat} (hk : k < 22) (hn : n < 40) (h6 : S.length ≤ 6) (hF2 : F.length ≤ 2) (hS : vl_xT nI so S) (hB : vl_xT nI bb F) (h12 : ∀ x, x ∈ S → x = 1 ∨ x = 2) (hb : vl_base F ≤ S.length)
    (h4 : ¬ vl_fd k (S, F) → post (-4) (nI n, nI S.length, nI F.length, vc, nt, lc, ic, iz, ki, op, so, bb, vC, vS, lC, lS, lP, lK, lT, mC, mS))
    (h5 : vl_fd k (S, F) → ¬ vl_rm k (S, F) → post (-5) (nI n, nI S.length, nI F.length, vc, nt, lc, ic, iz, ki, op, so, bb, vC, vS, lC, lS, lP, lK, lT, mC, mS))
    (h1 : vl_fd k (S, F) → vl_rm k (S, F) → ∀ a c, vl_xT nI a (vl_ss k (S, F)).1 → vl_xT nI c (vl_ss k (S, F)).2 → post (nI (n + 1)) (nI (n + 1), nI (vl_ss k (S, F)).1.length, nI (vl_ss k (S, F)).2.length, vc, nt, lc, ic, iz, upd ki n (nI k), upd op n b, a, c, vC, vS, lC, lS, lP, lK, lT, mC, mS)) :
    wX_token_43 post (nI k) b (nI n) (nI S.length) (nI F.length) vc nt lc ic iz ki op so bb vC vS lC lS lP lK lT mC mS := by
  unfold wX_token_43
  refine vx_finds hk h6 hF2 hS hB h12 hb ?_ ?_
  · intro f1
    refine br_f (by decide) ?_
    refine vx_room hk h6 hF2 ?_ ?_
    · intro r1
      refine br_f (by decide) ?_
      simp (disch := omega) only [nI_clamp, vl_in, forall_eq, true_and, nI_1]
      refine vx_change hk f1 r1 h6 hF2 hS hB ?_
      exact h1 f1 r1
    · intro r1; exact br_t rfl (h5 f1 r1)
  · intro f1; exact br_t rfl (h4 f1)
theorem vy_tok0 {post : Int32 → SY → Prop} {a b : Int32} (h1 : vl_good a b → wY_token_42 post a b cn hg oc tp dp sz inq kq aq ra fl ln va bg mn rs el os ou) (h0 : ¬ vl_good a b → post (-1) (cn, hg, oc, tp, dp, sz, inq, kq, aq, ra, fl, ln, va, bg, mn, rs, el, os, ou)) : wpY_token post (cn, hg, oc, tp, dp, sz, inq, kq, aq, ra, fl, ln, va, bg, mn, rs, el, os, ou) a b := by
  unfold wpY_token
  refine br_c (fun z => h0 (fun q => q.1 z)) (fun z => br_c (fun z2 => h0 (fun q => Int32.not_lt.mpr q.2.1 z2)) (fun z2 => ?_))
  have z2' : a ≤ 21 := Int32.not_lt.mp z2
  have go26 : (a = 0 → ¬ b < -99 ∧ ¬ 99 < b) → wY_token_26 post a b cn hg oc tp dp sz inq kq aq ra fl ln va bg mn rs el os ou := by
    intro g0
    unfold wY_token_26
    refine br_c (fun e1 => br_c (fun w => h0 (fun q => (q.2.2.2 e1).1 w)) (fun w => br_c (fun w2 => h1 ⟨z, z2', g0, fun _ => ⟨w, w2⟩⟩) (fun w2 => h0 (fun q => w2 (q.2.2.2 e1).2)))) (fun e1 => h1 ⟨z, z2', g0, fun e => absurd e e1⟩)
  refine br_c (fun e0 => br_c (fun w => h0 (fun q => (q.2.2.1 e0).1 w)) (fun w => br_c (fun w2 => h0 (fun q => (q.2.2.1 e0).2 w2)) (fun w2 => go26 (fun _ => ⟨w, w2⟩)))) (fun e0 => go26 (fun e => absurd e e0))
theorem vy_tok42 {post : Int32 → SY → Prop} {k : Nat} {b : Int32} (hk : k < 22) (h : vl_PG K aq n) (hn : n < 40) (hK : ∀ t, t < n → kq t = nI (K t))
    (h3 : ¬ vl_eo k b (vl_st K n).2 → ∀ hg oc ra fl, post (-3) (nI n, hg, oc, tp, dp, sz, inq, kq, aq, ra, fl, ln, va, bg, mn, rs, el, os, ou))
    (h4 : vl_eo k b (vl_st K n).2 → ¬ vl_fd k (vl_st K n) → ∀ hg oc ra fl, post (-4) (nI n, hg, oc, tp, dp, sz, inq, kq, aq, ra, fl, ln, va, bg, mn, rs, el, os, ou))
    (h5 : vl_eo k b (vl_st K n).2 → vl_fd k (vl_st K n) → ¬ vl_rm k (vl_st K n) → ∀ hg oc ra fl, post (-5) (nI n, hg, oc, tp, dp, sz, inq, kq, aq, ra, fl, ln, va, bg, mn, rs, el, os, ou))
    (h1 : vl_eo k b (vl_st K n).2 → vl_fd k (vl_st K n) → vl_rm k (vl_st K n) → ∀ hg oc ra fl, post (nI (n + 1)) (nI (n + 1), hg, oc, tp, dp, sz, inq, upd kq n (nI k), upd aq n b, ra, fl, ln, va, bg, mn, rs, el, os, ou)) : wY_token_42 post (nI k) b (nI n) hg oc tp dp sz inq kq aq ra fl ln va bg mn rs el os ou := by
  obtain ⟨b1, b2⟩ := vl_bd h n (Nat.le_refl _)
  have hbase := vl_Fs_base (vl_base_le h n (Nat.le_refl _))
  have h12 := vl_st_12 (K := K) n
  unfold wY_token_42
  refine br_f (fun w => by rw [show (40 : Int32) = nI 40 from rfl, nI_eq (by omega) (by omega)] at w; omega) ?_
  refine vy_check h (by omega) hK ?_
  intro ra' fl' q1 q2
  have go : vl_eo k b (vl_st K n).2 → wY_token_78 post (nI k) b (nI n) (nI (vl_st K n).1.length) (nI (vl_st K n).2.length) tp dp sz inq kq aq (ra') (fl') ln va bg mn rs el os ou := by
    intro he
    unfold wY_token_78
    refine vy_isFound hk b1 b2 q1 q2 h12 hbase ?_ ?_
    · intro f1
      have f1 : vl_fd k (vl_st K n) := f1
      have fin : vl_rm k (vl_st K n) → wY_token_136 post (nI k) b (nI n) (nI (vl_st K n).1.length) (nI (vl_st K n).2.length) tp dp sz inq kq aq (ra') (fl') ln va bg mn rs el os ou := by
        intro r1
        unfold wY_token_136
        simp (disch := omega) only [nI_clamp, vl_in, forall_eq, true_and, nI_1]
        exact h1 he f1 r1 _ _ _ _
      have goB : (k = 19 ∨ k = 20) → wY_token_101 post (nI k) b (nI n) (nI (vl_st K n).1.length) (nI (vl_st K n).2.length) tp dp sz inq kq aq (ra') (fl') ln va bg mn rs el os ou := by
        intro kb
        refine br_t (nI_le (a := 3) (by omega) (by omega)) (br_f (by decide) ?_)
        refine pk_eq (vl_st K n).2.length 2 ?_ ?_ rfl rfl (by omega) (by omega)
        · intro e
          exact h5 he f1 (fun r => by have := r.2 kb; omega) _ _ _ _
        · intro e
          exact fin ⟨fun w => by omega, fun _ => by omega⟩
      refine br_f (by decide) ?_
      refine pk_eq k 19 (fun e => goB (Or.inl e)) (fun e => pk_eq k 20 (fun e2 => goB (Or.inr e2)) (fun e2 => ?_))
      refine pk_le 3 k ?_ ?_ rfl rfl (by omega) (by omega)
      · intro h3k
        exact br_t rfl (fin ⟨fun w => by omega, fun w => by omega⟩)
      · intro h3k
        refine pk_eq (vl_st K n).1.length 6 ?_ ?_ rfl rfl (by omega) (by omega)
        · intro e6
          exact h5 he f1 (fun r => by have := r.1 h3k; omega) _ _ _ _
        · intro e6
          exact br_t rfl (fin ⟨fun _ => by omega, fun w => by omega⟩)
    · intro f1; exact br_t rfl (h4 he f1 _ _ _ _)
  refine pk_eq k 2 ?_ ?_
  · intro e
    refine br_c ?_ ?_
    · intro w
      refine h3 (fun q => ?_) _ _ _ _
      obtain ⟨i, hi, rfl⟩ := q e
      exact nI_pos (by omega) w
    · intro w
      obtain ⟨i, hi, rfl⟩ := nI_of w
      refine pk_lt i (vl_st K n).2.length ?_ ?_ rfl rfl hi (by omega)
      · intro w2; exact go (fun _ => ⟨i, w2, rfl⟩)
      · intro w2
        refine h3 (fun q => ?_) _ _ _ _
        obtain ⟨j, hj, ej⟩ := q e
        rw [nI_eq hi (by omega)] at ej
        omega
  · intro e; exact go (fun w => absurd w e)
theorem i_vc_token {k : Nat} {u : SX} {v : SY} (I : i_Rel k u v) (hk : k + 4 ≤ 2048) (v1 : Int32) (v2 : Int32) : wpX_token (fun r u' => wpY_token (fun r' v' => r' = r ∧ i_Rel (k + 4) u' v') v v1 v2) u v1 v2 := by
  obtain ⟨n, K, zs, vc, nt, lc, ic, iz, ki, op, so, bb, vC, vS, lC, lS, lP, lK, lT, mC, mS, hg, oc, tp, dp, inq, ra, fl, ln, va, bg, mn, rs, el, os, ou, rfl, rfl, hI⟩ := I
  have hI0 := hI
  obtain ⟨a1, a2, a3, a4, a5, a6⟩ := hI
  obtain ⟨b1, b2⟩ := vl_bd a2 n (Nat.le_refl _)
  have hbase := vl_Fs_base (vl_base_le a2 n (Nat.le_refl _))
  have h12 := vl_st_12 (K := K) n
  unfold wpX_token
  refine vx_isTok ?_ ?_
  · intro good
    refine br_f (by decide) ?_
    have hY42 : ∀ Q : Int32 → SY → Prop, wY_token_42 Q v1 v2 (nI n) hg oc tp dp (iz) inq (ki) (op) ra fl ln va bg mn rs el os ou → wpY_token Q (nI n, hg, oc, tp, dp, iz, inq, ki, op, ra, fl, ln, va, bg, mn, rs, el, os, ou) v1 v2 := fun Q hQ => vy_tok0 (fun _ => hQ) (fun w => absurd good w)
    obtain ⟨j, hj, rfl⟩ := nI_of2 (n := 21) (by decide) good.1 good.2.1
    have hj : j < 22 := by omega
    refine pk_lt n 40 ?_ ?_ rfl rfl (by omega) (by omega)
    · intro hn
      have bad3 : ¬ vl_eo j v2 (vl_st K n).2 → wpY_token (fun r' v' => r' = -3 ∧ i_Rel (k + 4) (nI n, nI (vl_st K n).1.length, nI (vl_st K n).2.length, vc, nt, lc, ic, iz, ki, op, so, bb, vC, vS, lC, lS, lP, lK, lT, mC, mS) v') (nI n, hg, oc, tp, dp, iz, inq, ki, op, ra, fl, ln, va, bg, mn, rs, el, os, ou) (nI j) v2 := by
        intro he
        refine hY42 _ (vy_tok42 hj a2 hn a3 ?_ ?_ ?_ ?_)
        · intro _ _ _ _ _; exact ⟨rfl, vr_mk hI0⟩
        · intro w; exact absurd w he
        · intro w; exact absurd w he
        · intro w; exact absurd w he
      have go : vl_eo j v2 (vl_st K n).2 → wX_token_43 (fun r u' => wpY_token (fun r' v' => r' = r ∧ i_Rel (k + 4) u' v') (nI n, hg, oc, tp, dp, iz, inq, ki, op, ra, fl, ln, va, bg, mn, rs, el, os, ou) (nI j) v2) (nI j) v2 (nI n) (nI (vl_st K n).1.length) (nI (vl_st K n).2.length) vc nt lc ic iz ki op so bb vC vS lC lS lP lK lT mC mS := by
        intro he
        refine vx_tok43 (S := (vl_st K n).1) (F := (vl_st K n).2) hj hn b1 b2 a5 a6 h12 hbase ?_ ?_ ?_
        · intro f1
          refine hY42 _ (vy_tok42 hj a2 hn a3 ?_ ?_ ?_ ?_)
          · intro w; exact absurd he w
          · intro _ _ _ _ _ _; exact ⟨rfl, vr_mk hI0⟩
          · intro _ w; exact absurd w f1
          · intro _ w; exact absurd w f1
        · intro f1 r1
          refine hY42 _ (vy_tok42 hj a2 hn a3 ?_ ?_ ?_ ?_)
          · intro w; exact absurd he w
          · intro _ w; exact absurd f1 w
          · intro _ _ _ _ _ _ _; exact ⟨rfl, vr_mk hI0⟩
          · intro _ _ w; exact absurd w r1
        · intro f1 r1 a c q1 q2
          refine hY42 _ (vy_tok42 hj a2 hn a3 ?_ ?_ ?_ ?_)
          · intro w; exact absurd he w
          · intro _ w; exact absurd f1 w
          · intro _ _ w; exact absurd r1 w
          · intro _ _ _ hg' oc' ra' fl'
            refine ⟨rfl, ?_⟩
            have hok : vl_ok j v2 (vl_st K n) := ⟨hj, f1, r1, fun e => by
              obtain ⟨w1, w2⟩ := good.2.2.2 (by rw [e]; rfl)
              exact vl_3 w1 w2, he⟩
            have e := vl_st_new (K := K) (n := n) (k := j)
            have e' : vl_ss j ((vl_st K n).1, (vl_st K n).2) = vl_st (fun t => if t = n then j else K t) (n + 1) := e.symm
            rw [e'] at q1 q2 ⊢
            refine vr_mk ⟨by omega, vl_PG_s a2 hok, ?_, a4, q1, q2⟩
            intro t ht
            by_cases et : t = n
            · subst et
              rw [pk_us]
              show nI j = nI (if t = t then j else K t)
              rw [if_pos rfl]
            · rw [pk_un et]
              show ki t = nI (if t = n then j else K t)
              rw [if_neg et]
              exact a3 t (by omega)
      refine pk_eq j 2 ?_ ?_
      · intro e
        refine br_c ?_ ?_
        · intro w
          refine bad3 (fun q => ?_)
          obtain ⟨i, hi, rfl⟩ := q e
          exact nI_pos (by omega) w
        · intro w
          obtain ⟨i, hi, rfl⟩ := nI_of w
          refine pk_lt i (vl_st K n).2.length ?_ ?_ rfl rfl hi (by omega)
          · intro w2; exact go (fun _ => ⟨i, w2, rfl⟩)
          · intro w2
            refine bad3 (fun q => ?_)
            obtain ⟨i', hi', ei⟩ := q e
            rw [nI_eq hi (by omega)] at ei
            omega
      · intro e; exact go (fun w => absurd w e)
    · intro hn
      refine hY42 _ ?_
      exact br_t (by rw [show n = 40 by omega]; rfl) ⟨rfl, vr_mk hI0⟩
  · intro bad
    refine br_t rfl ?_
    exact vy_tok0 (fun w => absurd w bad) (fun _ => ⟨rfl, vr_mk hI0⟩)
