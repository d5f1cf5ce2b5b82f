/-! part 22: the relation, and the calls on the inputs -/
def vl_Inv (n : Nat) (K zs : Nat → Nat) (ic iz ki op so bb inq : Nat → Int32) : Prop :=
  n ≤ 40 ∧ vl_PG K op n ∧ (∀ t, t < n → ki t = nI (K t)) ∧ (∀ i, i < 3 → iz i = nI (zs i) ∧ zs i ≤ 8 ∧ ∀ p, p < zs i → ic (8 * i + p) = inq (8 * i + p)) ∧ vl_xT nI so (vl_st K n).1 ∧ vl_xT nI bb (vl_st K n).2
def i_Rel (_ : Nat) (u : SX) (v : SY) : Prop :=
  ∃ (n : Nat) (K zs : Nat → Nat) (vc nt lc : Int32) (ic iz ki op so bb vC vS lC lS lP lK lT mC mS : Nat → Int32) (hg oc tp dp : Int32) (inq ra fl ln va bg mn rs el os ou : Nat → Int32),
    u = (nI n, nI (vl_st K n).1.length, nI (vl_st K n).2.length, vc, nt, lc, ic, iz, ki, op, so, bb, vC, vS, lC, lS, lP, lK, lT, mC, mS) ∧ v = (nI n, hg, oc, tp, dp, iz, inq, ki, op, ra, fl, ln, va, bg, mn, rs, el, os, ou) ∧ vl_Inv n K zs ic iz ki op so bb inq
variable {n : Nat} {K zs : Nat → Nat} {tc sc ob vc nt lc : Int32} {ic iz ki op so bb vC vS lC lS lP lK lT mC mS : Nat → Int32} {cn hg oc tp dp : Int32} {sz inq kq aq ra fl ln va bg mn rs el os ou : Nat → Int32}
theorem vr_mk {k : Nat} (h : vl_Inv n K zs ic iz ki op so bb inq) : i_Rel k (nI n, nI (vl_st K n).1.length, nI (vl_st K n).2.length, vc, nt, lc, ic, iz, ki, op, so, bb, vC, vS, lC, lS, lP, lK, lT, mC, mS) (nI n, hg, oc, tp, dp, iz, inq, ki, op, ra, fl, ln, va, bg, mn, rs, el, os, ou) :=
  ⟨n, K, zs, vc, nt, lc, ic, iz, ki, op, so, bb, vC, vS, lC, lS, lP, lK, lT, mC, mS, hg, oc, tp, dp, inq, ra, fl, ln, va, bg, mn, rs, el, os, ou, rfl, rfl, h⟩
theorem i_up {k : Nat} {u : SX} {v : SY} (h : i_Rel k u v) : i_Rel (k + 4) u v := h
theorem i_vc0 : wpX_init (fun u => wpY_init (fun v => i_Rel 0 u v)) :=
  vr_mk (k := 0) (n := 0) (K := fun _ => 0) (zs := fun _ => 0) ⟨by omega, fun t ht => absurd ht (Nat.not_lt_zero t), fun t ht => absurd ht (Nat.not_lt_zero t), fun i _ => ⟨rfl, Nat.zero_le _, fun p hp => absurd hp (Nat.not_lt_zero p)⟩, True.intro, True.intro⟩
theorem vl_3 {b : Int32} (h : ¬ b < 0) (h2 : b ≤ 2) : ∃ i, i < 3 ∧ b = nI i := by
  obtain ⟨j, hj, e⟩ := nI_of2 (n := 2) (by decide) h h2
  exact ⟨j, by omega, e⟩
theorem vy_isInput {post : Int32 → Prop} {b : Int32} (h1 : ¬ b < 0 → b ≤ 2 → post 1) (h0 : (b < 0 ∨ ¬ b ≤ 2) → post 0) : wpY_isInput post (cn, hg, oc, tp, dp, sz, inq, kq, aq, ra, fl, ln, va, bg, mn, rs, el, os, ou) b := by
  unfold wpY_isInput
  exact br_c (fun z => h0 (Or.inl z)) (fun z => br_c (fun z2 => h0 (Or.inr (Int32.not_le.mpr z2))) (fun z2 => h1 z (Int32.not_lt.mp z2)))
theorem vy_in0 {post : Int32 → Prop} {b : Int32} (h : b < 0 ∨ ¬ b ≤ 2) (hp : post 0) : wpY_isInput post (cn, hg, oc, tp, dp, sz, inq, kq, aq, ra, fl, ln, va, bg, mn, rs, el, os, ou) b :=
  vy_isInput (fun w1 w2 => absurd h (fun w => w.elim w1 (fun w3 => w3 w2))) (fun _ => hp)
theorem vy_in1 {post : Int32 → Prop} {i : Nat} (h : i < 3) (hp : post 1) : wpY_isInput post (cn, hg, oc, tp, dp, sz, inq, kq, aq, ra, fl, ln, va, bg, mn, rs, el, os, ou) (nI i) :=
  vy_isInput (fun _ _ => hp) (fun w => w.elim (fun z => absurd z (nI_pos (by omega))) (fun z => absurd (nI_le (b := 2) (by omega) (by decide)) z))
theorem vl_zs {i z : Nat} {ic' iz' inq' : Nat → Int32} (h : ∀ i, i < 3 → iz i = nI (zs i) ∧ zs i ≤ 8 ∧ ∀ p, p < zs i → ic (8 * i + p) = inq (8 * i + p)) (hz : z ≤ 8) (hs : iz' i = nI z) (hn : ∀ j, j ≠ i → iz' j = iz j)
    (hc : ∀ p, p < z → ic' (8 * i + p) = inq' (8 * i + p)) (hf : ∀ j, (j < 8 * i ∨ 8 * i + 8 ≤ j) → ic' j = ic j) (hf2 : ∀ j, (j < 8 * i ∨ 8 * i + 8 ≤ j) → inq' j = inq j) :
    ∀ j, j < 3 → iz' j = nI ((fun j => if j = i then z else zs j) j) ∧ (fun j => if j = i then z else zs j) j ≤ 8 ∧ ∀ p, p < (fun j => if j = i then z else zs j) j → ic' (8 * j + p) = inq' (8 * j + p) := by
  intro j hj
  by_cases e : j = i
  · subst e
    show iz' j = nI (if j = j then z else zs j) ∧ (if j = j then z else zs j) ≤ 8 ∧ ∀ p, p < (if j = j then z else zs j) → _
    rw [if_pos rfl]
    exact ⟨hs, hz, hc⟩
  · show iz' j = nI (if j = i then z else zs j) ∧ (if j = i then z else zs j) ≤ 8 ∧ ∀ p, p < (if j = i then z else zs j) → _
    rw [if_neg e]
    obtain ⟨h1, h2, h3⟩ := h j hj
    refine ⟨(hn j e).trans h1, h2, fun p hp => ?_⟩
    rw [hf _ (by omega), hf2 _ (by omega)]
    exact h3 p hp
theorem i_vc_put {k : Nat} {u : SX} {v : SY} (I : i_Rel k u v) (hk : k + 4 ≤ 2048) (v1 : Int32) (v2 : Int32) : wpX_put (fun r u' => wpY_put (fun r' v' => r' = r ∧ i_Rel (k + 4) u' v') v v1 v2) u v1 v2 := by
  obtain ⟨n, K, zs, vc, nt, lc, ic, iz, ki, op, so, bb, vC, vS, lC, lS, lP, lK, lT, mC, mS, hg, oc, tp, dp, inq, ra, fl, ln, va, bg, mn, rs, el, os, ou, rfl, rfl, hI⟩ := I
  unfold wpX_put wpY_put
  refine vx_isInput ?_ ?_
  · intro w1 w2
    obtain ⟨i, hi, rfl⟩ := vl_3 w1 w2
    obtain ⟨a1, a2, a3, a4, a5, a6⟩ := hI
    obtain ⟨z1, z2, z3⟩ := a4 i hi
    refine br_f (by decide) ⟨vp_in_nI hi (by decide), ?_⟩
    simp (disch := omega) only [nI_clamp, z1, forall_eq, vl_m8, nI_add, nI_1]
    refine pk_lt (zs i) 8 ?_ ?_ rfl rfl (by omega) (by omega)
    · intro hz
      refine ⟨vp_in_nI (by omega) (by decide), vp_in_nI hi (by decide), ?_⟩
      refine vy_in1 hi (br_f (by decide) ⟨vp_in_nI hi (by decide), ?_⟩)
      refine br_f (fun w => by rw [show (8 : Int32) = nI 8 from rfl, nI_eq (by omega) (by omega)] at w; omega) ?_
      simp (disch := omega) only [nI_clamp, z1, vl_8m, nI_add, nI_1, vl_in, true_and, pk_us, forall_eq]
      refine vr_mk (zs := fun j => if j = i then zs i + 1 else zs j) ⟨a1, a2, a3, vl_zs a4 (by omega) pk_us (fun j hj => pk_un hj) ?_ (fun j hj => pk_un (by omega)) (fun j hj => pk_un (by omega)), a5, a6⟩
      intro p hp
      by_cases e : p = zs i
      · subst e; rw [pk_us, pk_us]
      · rw [pk_un (by omega), pk_un (by omega)]; exact z3 p (by omega)
    · intro hz
      refine vy_in1 hi (br_f (by decide) ⟨vp_in_nI hi (by decide), br_t (by rw [show zs i = 8 by omega]; rfl) ⟨by trivial, vr_mk ⟨a1, a2, a3, a4, a5, a6⟩⟩⟩)
  · intro w
    exact br_t rfl (vy_in0 w (br_t rfl ⟨rfl, vr_mk hI⟩))
theorem i_vc_set {k : Nat} {u : SX} {v : SY} (I : i_Rel k u v) (hk : k + 4 ≤ 2048) (v1 : Int32) (v2 : Int32) (v3 : Int32) : wpX_set (fun r u' => wpY_set (fun r' v' => r' = r ∧ i_Rel (k + 4) u' v') v v1 v2 v3) u v1 v2 v3 := by
  obtain ⟨n, K, zs, vc, nt, lc, ic, iz, ki, op, so, bb, vC, vS, lC, lS, lP, lK, lT, mC, mS, hg, oc, tp, dp, inq, ra, fl, ln, va, bg, mn, rs, el, os, ou, rfl, rfl, hI⟩ := I
  unfold wpX_set wpY_set
  refine vx_isInput ?_ ?_
  · intro w1 w2
    obtain ⟨i, hi, rfl⟩ := vl_3 w1 w2
    have hI0 := hI
    obtain ⟨a1, a2, a3, a4, a5, a6⟩ := hI
    obtain ⟨z1, z2, z3⟩ := a4 i hi
    refine br_f (by decide) (br_c ?_ ?_)
    · intro q
      exact vy_in1 hi (br_f (by decide) (br_t q ⟨rfl, vr_mk hI0⟩))
    · intro q
      obtain ⟨p, hp, rfl⟩ := nI_of q
      refine ⟨vp_in_nI hi (by decide), ?_⟩
      simp (disch := omega) only [nI_clamp, z1, forall_eq, vl_m8, nI_add]
      refine pk_lt p (zs i) ?_ ?_ rfl rfl hp (by omega)
      · intro hz
        rw [nI_clamp (by omega)]
        refine ⟨vp_in_nI (by omega) (by decide), ?_⟩
        refine vy_in1 hi (br_f (by decide) (br_f q ⟨vp_in_nI hi (by decide), ?_⟩))
        refine br_t (nI_lt hz (by omega)) ?_
        simp (disch := omega) only [nI_clamp, vl_8m, nI_add, vl_in, true_and, forall_eq]
        refine vr_mk (zs := zs) ⟨a1, a2, a3, ?_, a5, a6⟩
        intro j hj
        obtain ⟨y1, y2, y3⟩ := a4 j hj
        refine ⟨y1, y2, fun r hr => ?_⟩
        by_cases e : 8 * j + r = 8 * i + p
        · rw [e, pk_us, pk_us]
        · rw [pk_un e, pk_un e]; exact y3 r hr
      · intro hz
        refine vy_in1 hi (br_f (by decide) (br_f q ⟨vp_in_nI hi (by decide), ?_⟩))
        exact br_f (nI_nlt hz hp) ⟨by trivial, vr_mk hI0⟩
  · intro w
    exact br_t rfl (vy_in0 w (br_t rfl ⟨rfl, vr_mk hI⟩))
theorem i_vc_empty {k : Nat} {u : SX} {v : SY} (I : i_Rel k u v) (hk : k + 4 ≤ 2048) (v1 : Int32) : wpX_empty (fun r u' => wpY_empty (fun r' v' => r' = r ∧ i_Rel (k + 4) u' v') v v1) u v1 := by
  obtain ⟨n, K, zs, vc, nt, lc, ic, iz, ki, op, so, bb, vC, vS, lC, lS, lP, lK, lT, mC, mS, hg, oc, tp, dp, inq, ra, fl, ln, va, bg, mn, rs, el, os, ou, rfl, rfl, hI⟩ := I
  unfold wpX_empty wpY_empty
  refine vx_isInput ?_ ?_
  · intro w1 w2
    obtain ⟨i, hi, rfl⟩ := vl_3 w1 w2
    obtain ⟨a1, a2, a3, a4, a5, a6⟩ := hI
    refine br_f (by decide) ⟨vp_in_nI hi (by decide), nm_e ⟨vp_in_nI hi (by decide), ?_⟩⟩
    rw [nI_clamp (by omega)]
    refine nm_e ?_
    refine vy_in1 hi (br_f (by decide) ⟨vp_in_nI hi (by decide), nm_e ⟨vp_in_nI hi (by decide), ?_⟩⟩)
    refine nm_e ⟨rfl, ?_⟩
    exact vr_mk (zs := fun j => if j = i then 0 else zs j) ⟨a1, a2, a3, vl_zs a4 (by omega) pk_us (fun j hj => pk_un hj) (fun p hp => absurd hp (Nat.not_lt_zero p)) (fun j hj => rfl) (fun j hj => rfl), a5, a6⟩
  · intro w
    exact br_t rfl (vy_in0 w (br_t rfl ⟨rfl, vr_mk hI⟩))
theorem i_vc_size {k : Nat} {u : SX} {v : SY} (I : i_Rel k u v) (hk : k + 4 ≤ 2048) (v1 : Int32) : wpX_size (fun r => wpY_size (fun r' => r' = r ∧ i_Rel (k + 4) u v) v v1) u v1 := by
  obtain ⟨n, K, zs, vc, nt, lc, ic, iz, ki, op, so, bb, vC, vS, lC, lS, lP, lK, lT, mC, mS, hg, oc, tp, dp, inq, ra, fl, ln, va, bg, mn, rs, el, os, ou, rfl, rfl, hI⟩ := I
  unfold wpX_size wpY_size
  refine vx_isInput ?_ ?_
  · intro w1 w2
    obtain ⟨i, hi, rfl⟩ := vl_3 w1 w2
    exact br_f (by decide) ⟨vp_in_nI hi (by decide), vy_in1 hi (br_f (by decide) ⟨vp_in_nI hi (by decide), rfl, vr_mk hI⟩)⟩
  · intro w
    exact br_t rfl (vy_in0 w (br_t rfl ⟨rfl, vr_mk hI⟩))
theorem i_vc_input {k : Nat} {u : SX} {v : SY} (I : i_Rel k u v) (hk : k + 4 ≤ 2048) (v1 : Int32) (v2 : Int32) : wpX_input (fun r => wpY_input (fun r' => r' = r ∧ i_Rel (k + 4) u v) v v1 v2) u v1 v2 := by
  obtain ⟨n, K, zs, vc, nt, lc, ic, iz, ki, op, so, bb, vC, vS, lC, lS, lP, lK, lT, mC, mS, hg, oc, tp, dp, inq, ra, fl, ln, va, bg, mn, rs, el, os, ou, rfl, rfl, hI⟩ := I
  unfold wpX_input wpY_input
  refine vx_isInput ?_ ?_
  · intro w1 w2
    obtain ⟨i, hi, rfl⟩ := vl_3 w1 w2
    have hI0 := hI
    obtain ⟨a1, a2, a3, a4, a5, a6⟩ := hI
    obtain ⟨z1, z2, z3⟩ := a4 i hi
    refine br_f (by decide) (br_c ?_ ?_)
    · intro q
      exact vy_in1 hi (br_f (by decide) (br_t q ⟨rfl, vr_mk hI0⟩))
    · intro q
      obtain ⟨p, hp, rfl⟩ := nI_of q
      refine ⟨vp_in_nI hi (by decide), ?_⟩
      rw [nI_clamp (show i < 2 ^ 31 by omega), z1]
      refine pk_lt p (zs i) ?_ ?_ rfl rfl hp (by omega)
      · intro hz
        rw [vl_m8, nI_add, nI_clamp (by omega)]
        refine ⟨vp_in_nI (by omega) (by decide), ?_⟩
        refine vy_in1 hi (br_f (by decide) (br_f q ⟨vp_in_nI hi (by decide), ?_⟩))
        rw [z1]
        refine br_f (nI_ge hz (by omega)) ?_
        rw [vl_8m, nI_add, nI_clamp (by omega)]
        exact ⟨vp_in_nI (by omega) (by decide), (z3 p hz).symm, vr_mk hI0⟩
      · intro hz
        refine vy_in1 hi (br_f (by decide) (br_f q ⟨vp_in_nI hi (by decide), ?_⟩))
        rw [z1]
        exact br_t (nI_le hz hp) ⟨rfl, vr_mk hI0⟩
  · intro w
    exact br_t rfl (vy_in0 w (br_t rfl ⟨rfl, vr_mk hI⟩))
