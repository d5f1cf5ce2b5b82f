/-! part 3: the pure machine: a row is its length and its elements; the stack top first; a lane is (its token, length, elements, place, made length, made elements), innermost first -/
abbrev vl_rw : Type := Nat × (Nat → Int32)
abbrev vl_ln : Type := Nat × Nat × (Nat → Int32) × Nat × Nat × (Nat → Int32)
def vl_el : List vl_ln → Nat → Int32
  | [], _ => 0
  | (_, _, f, e, _, _) :: L, i => if i = L.length then f e else vl_el L i
def vl_cm (k : Nat) (n m : Int32) : Int32 :=
  if k = 3 then n + m else if k = 4 then n - m else if k = 5 then n * m else if k = 6 then (if m = 0 then 0 else n / m)
  else if k = 7 then (if n < m then 1 else 0) else (if n = m then 1 else 0)
def vl_sm (f : Nat → Int32) : Nat → Int32
  | 0 => 0
  | p + 1 => vl_sm f p + f p
def vl_mx (f : Nat → Int32) : Nat → Int32
  | 0 => 0
  | 1 => f 0
  | p + 2 => if vl_mx f (p + 1) < f (p + 1) then f (p + 1) else vl_mx f (p + 1)
def vl_at (i : Int32) (r : vl_rw) : Int32 := if 0 ≤ i ∧ i < nI r.1 then r.2 i.toNatClampNeg else 0
def vl_cl (c : Int32) : Nat := if c < 0 then 0 else if 8 < c then 8 else c.toNatClampNeg
/-- ascending below m -/
def vl_As (m : Nat) (f : Nat → Int32) : Prop := ∀ p q, p < q → q < m → f p ≤ f q
/-- how often v stands below m -/
def vl_ct (f : Nat → Int32) (v : Int32) : Nat → Nat
  | 0 => 0
  | p + 1 => vl_ct f v p + (if f p = v then 1 else 0)
def vl_Sd (m : Nat) (f g : Nat → Int32) : Prop := vl_As m g ∧ ∀ v, vl_ct g v m = vl_ct f v m
noncomputable def vl_so (m : Nat) (f : Nat → Int32) : Nat → Int32 := by
  classical
  exact if h : ∃ g, vl_Sd m f g then Classical.choose h else f
noncomputable def vl_ap (zs : Nat → Nat) (inp : Nat → Nat → Int32) (L : List vl_ln) (a : Int32) (k : Nat) (s : List vl_rw) : List vl_rw :=
  if k = 0 then (1, fun _ => a) :: s
  else if k = 1 then (zs a.toNatClampNeg, inp a.toNatClampNeg) :: s
  else if k = 2 then (1, fun _ => vl_el L a.toNatClampNeg) :: s
  else if k < 9 then (match s with | m :: n :: s => (1, fun _ => vl_cm k (n.2 0) (m.2 0)) :: s | s => s)
  else if k = 9 then (match s with | k3 :: m :: n :: s => (1, fun _ => if n.2 0 = 0 then k3.2 0 else m.2 0) :: s | s => s)
  else if k = 10 then (match s with | r :: s => (1, fun _ => nI r.1) :: s | s => s)
  else if k = 11 then (match s with | r :: s => (1, fun _ => vl_sm r.2 r.1) :: s | s => s)
  else if k = 12 then (match s with | r :: s => (1, fun _ => vl_mx r.2 r.1) :: s | s => s)
  else if k = 13 then (match s with | i :: r :: s => (1, fun _ => vl_at (i.2 0) r) :: s | s => s)
  else if k = 14 then (match s with | c :: s => (vl_cl (c.2 0), fun p => nI p) :: s | s => s)
  else if k = 15 then (match s with | q :: r :: s => (if r.1 + q.1 < 8 then r.1 + q.1 else 8, fun p => if p < r.1 then r.2 p else q.2 (p - r.1)) :: s | s => s)
  else if k = 16 then (match s with | r :: s => (r.1, fun p => r.2 (r.1 - 1 - p)) :: s | s => s)
  else if k = 17 then (match s with | r :: s => (r.1, fun p => vl_sm r.2 (p + 1)) :: s | s => s)
  else (match s with | r :: s => (r.1, vl_so r.1 r.2) :: s | s => s)
def vl_TY : List Nat → List vl_rw → Prop
  | [], [] => True
  | x :: S, r :: s => r.1 ≤ 8 ∧ (x = 1 → r.1 = 1) ∧ vl_TY S s
  | _, _ => False
theorem vl_TYn {s : List vl_rw} (h : vl_TY [] s) : s = [] := by
  cases s with
  | nil => rfl
  | cons r s => exact h.elim
theorem vl_TYc {x : Nat} {S : List Nat} {s : List vl_rw} (h : vl_TY (x :: S) s) : ∃ r s', s = r :: s' ∧ r.1 ≤ 8 ∧ (x = 1 → r.1 = 1) ∧ vl_TY S s' := by
  cases s with
  | nil => exact h.elim
  | cons r s => exact ⟨r, s, rfl, h⟩
theorem vl_TYl : ∀ {S : List Nat} {s : List vl_rw}, vl_TY S s → s.length = S.length := by
  intro S
  induction S with
  | nil => intro s h; rw [vl_TYn h]; rfl
  | cons x S ih =>
    intro s h
    obtain ⟨r, s', rfl, -, -, h3⟩ := vl_TYc h
    rw [List.length_cons, List.length_cons, ih h3]
theorem vl_cl8 (c : Int32) : vl_cl c ≤ 8 := by
  unfold vl_cl
  split
  · omega
  · rename_i h
    split
    · omega
    · rename_i h2
      obtain ⟨j, hj, rfl⟩ := nI_of h
      rw [nI_clamp hj]
      have : ¬ 8 < j := fun z => h2 (nI_lt (a := 8) z hj)
      omega
theorem vl_ap_ty {zs : Nat → Nat} {inp : Nat → Nat → Int32} {L : List vl_ln} {a : Int32} {k : Nat} {R : List Nat} {s : List vl_rw}
    (hk : k < 19) (hz : k = 1 → zs a.toNatClampNeg ≤ 8) (h : vl_TY (vl_nd k ++ R) s) : vl_TY (vl_gr k :: R) (vl_ap zs inp L a k s) := by
  have c : k = 0 ∨ k = 1 ∨ k = 2 ∨ (3 ≤ k ∧ k < 9) ∨ k = 9 ∨ k = 10 ∨ k = 11 ∨ k = 12 ∨ k = 13 ∨ k = 14 ∨ k = 15 ∨ k = 16 ∨ k = 17 ∨ k = 18 := by omega
  rcases c with rfl | rfl | rfl | ⟨c1, c2⟩ | rfl | rfl | rfl | rfl | rfl | rfl | rfl | rfl | rfl | rfl
  · exact ⟨show 1 ≤ 8 by decide, fun _ => rfl, h⟩
  · exact ⟨hz rfl, (fun z => absurd z (by decide)), h⟩
  · exact ⟨show 1 ≤ 8 by decide, fun _ => rfl, h⟩
  · have e : vl_nd k = [1, 1] := by unfold vl_nd; rw [if_neg (by omega), if_pos c2]
    rw [e] at h
    obtain ⟨m, s, rfl, -, -, h⟩ := vl_TYc h
    obtain ⟨n, s, rfl, -, -, h⟩ := vl_TYc h
    unfold vl_ap
    rw [if_neg (by omega), if_neg (by omega), if_neg (by omega), if_pos c2]
    exact ⟨by show 1 ≤ 8; omega, fun _ => rfl, h⟩
  · obtain ⟨m, s, rfl, -, -, h⟩ := vl_TYc h
    obtain ⟨n, s, rfl, -, -, h⟩ := vl_TYc h
    obtain ⟨i, s, rfl, -, -, h⟩ := vl_TYc h
    exact ⟨show 1 ≤ 8 by decide, fun _ => rfl, h⟩
  · obtain ⟨m, s, rfl, -, -, h⟩ := vl_TYc h
    exact ⟨show 1 ≤ 8 by decide, fun _ => rfl, h⟩
  · obtain ⟨m, s, rfl, -, -, h⟩ := vl_TYc h
    exact ⟨show 1 ≤ 8 by decide, fun _ => rfl, h⟩
  · obtain ⟨m, s, rfl, -, -, h⟩ := vl_TYc h
    exact ⟨show 1 ≤ 8 by decide, fun _ => rfl, h⟩
  · obtain ⟨m, s, rfl, -, -, h⟩ := vl_TYc h
    obtain ⟨n, s, rfl, -, -, h⟩ := vl_TYc h
    exact ⟨show 1 ≤ 8 by decide, fun _ => rfl, h⟩
  · obtain ⟨m, s, rfl, -, -, h⟩ := vl_TYc h
    exact ⟨vl_cl8 _, (fun z => absurd z (by decide)), h⟩
  · obtain ⟨m, s, rfl, -, -, h⟩ := vl_TYc h
    obtain ⟨n, s, rfl, -, -, h⟩ := vl_TYc h
    refine ⟨?_, (fun z => absurd z (by decide)), h⟩
    show (if n.1 + m.1 < 8 then n.1 + m.1 else 8) ≤ 8
    split <;> omega
  · obtain ⟨m, s, rfl, h8, -, h⟩ := vl_TYc h
    exact ⟨h8, (fun z => absurd z (by decide)), h⟩
  · obtain ⟨m, s, rfl, h8, -, h⟩ := vl_TYc h
    exact ⟨h8, (fun z => absurd z (by decide)), h⟩
  · obtain ⟨m, s, rfl, h8, -, h⟩ := vl_TYc h
    exact ⟨h8, (fun z => absurd z (by decide)), h⟩

/-- the lanes' invariant: relative to the blocks unended, the sorts on the stack and the next token -/
def vl_LI (K : Nat → Nat) (n : Nat) : List vl_ln → List Nat → List Nat → Nat → Prop
  | [], F, _, _ => F = []
  | (b, m, _, e, c, _) :: L, F, S, t => ∃ Sb Fb Y, vl_st K (b + 1) = (Sb, Sb.length :: Fb) ∧ F = Sb.length :: Fb ∧ S = Y ++ Sb ∧
      vl_E K n t 1 = vl_E K n (b + 1) 1 ∧ (b < n ∧ (K b = 19 ∨ K b = 20) ∧ m ≤ 8 ∧ e < m ∧ c ≤ e) ∧ vl_LI K n L Fb Sb (vl_E K n (b + 1) 1)
theorem vl_LI_len {K : Nat → Nat} {n : Nat} : ∀ {L : List vl_ln} {F S : List Nat} {t : Nat}, vl_LI K n L F S t → L.length = F.length := by
  intro L
  induction L with
  | nil => intro F S t h; have h' : F = [] := h; rw [h']; rfl
  | cons l L ih =>
    intro F S t h
    obtain ⟨b, m, f, e, c, g⟩ := l
    obtain ⟨Sb, Fb, Y, -, rfl, -, -, -, h2⟩ := h
    rw [List.length_cons, List.length_cons, ih h2]
theorem vl_LI_mv {K : Nat → Nat} {n : Nat} {L : List vl_ln} {F S S' : List Nat} {t t' : Nat} (h : vl_LI K n L F S t) (hE : L ≠ [] → vl_E K n t' 1 = vl_E K n t 1)
    (hS : ∀ Sb Y, S = Y ++ Sb → vl_base F = Sb.length → ∃ Y', S' = Y' ++ Sb) : vl_LI K n L F S' t' := by
  cases L with
  | nil => exact h
  | cons l L =>
    obtain ⟨b, m, f, e, c, g⟩ := l
    obtain ⟨Sb, Fb, Y, h1, rfl, h3, h4, h5, h6⟩ := h
    obtain ⟨Y', e'⟩ := hS Sb Y h3 rfl
    exact ⟨Sb, Fb, Y', h1, rfl, e', (hE (by intro z; cases z)).trans h4, h5, h6⟩
/-- taking k off and putting x on stays above the innermost block's floor -/
theorem vl_suf {S R : List Nat} {D : List Nat} {F : List Nat} (e : S = D ++ R) (hb : vl_base F ≤ R.length) : ∀ Sb Y, S = Y ++ Sb → vl_base F = Sb.length → ∃ Y', R = Y' ++ Sb := by
  intro Sb Y e2 h
  have hl : D.length ≤ Y.length := by
    have := congrArg List.length (e.symm.trans e2)
    rw [List.length_append, List.length_append] at this
    omega
  have e3 := congrArg (List.drop D.length) (e.symm.trans e2)
  rw [List.drop_left, List.drop_append_of_le_length hl] at e3
  exact ⟨_, e3⟩

def vl_w : Nat → Nat
  | 0 => 8
  | _ => 1
def vl_W : List vl_ln → Nat
  | [] => 64
  | _ :: L => vl_w L.length
def vl_B (K : Nat → Nat) (n : Nat) : List vl_ln → Nat
  | [] => n
  | l :: _ => vl_E K n (l.1 + 1) 1
def vl_pc (K : Nat → Nat) (n : Nat) : List vl_ln → Nat
  | [] => 0
  | (b, m, _, e, _, _) :: L => (vl_pc K n L + vl_W L * (vl_B K n L - vl_E K n (b + 1) 1)) + (m - 1 - e) * (vl_w L.length * (vl_E K n (b + 1) 1 - (b + 1)))
/-- the steps left, at most -/
def vl_pt (K : Nat → Nat) (n : Nat) (L : List vl_ln) (t : Nat) : Nat := vl_pc K n L + vl_W L * (vl_B K n L - t)
theorem vl_pt_mv {K : Nat → Nat} {n : Nat} {L : List vl_ln} {t t' : Nat} (h : t ≤ t') (hB : t' ≤ vl_B K n L) : vl_pt K n L t = vl_pt K n L t' + vl_W L * (t' - t) := by
  unfold vl_pt
  rw [show vl_B K n L - t = (vl_B K n L - t') + (t' - t) by omega, Nat.mul_add]
  omega
theorem vl_W1 (L : List vl_ln) : 1 ≤ vl_W L := by
  cases L with
  | nil => decide
  | cons l L =>
    show 1 ≤ vl_w L.length
    cases L.length with
    | zero => decide
    | succ _ => exact Nat.le_refl 1
theorem vl_pt_lt {K : Nat → Nat} {n : Nat} {L : List vl_ln} {t t' : Nat} (h : t < t') (hB : t' ≤ vl_B K n L) : vl_pt K n L t' < vl_pt K n L t := by
  rw [vl_pt_mv (t := t) (t' := t') (by omega) hB]
  have : 1 * 1 ≤ vl_W L * (t' - t) := Nat.mul_le_mul (vl_W1 L) (by omega)
  omega
theorem vl_pt_push {K : Nat → Nat} {n : Nat} {L : List vl_ln} {t m : Nat} {f g : Nat → Int32} (hL : L.length < 2) (hm : m ≤ 8) (hm1 : 1 ≤ m) (h1 : t + 1 ≤ vl_E K n (t + 1) 1) (hB : vl_E K n (t + 1) 1 ≤ vl_B K n L) :
    vl_pt K n ((t, m, f, 0, 0, g) :: L) (t + 1) < vl_pt K n L t := by
  rw [vl_pt_mv (L := L) (t := t) (by omega) hB]
  show vl_pt K n L (vl_E K n (t + 1) 1) + (m - 1 - 0) * (vl_w L.length * (vl_E K n (t + 1) 1 - (t + 1))) + vl_w L.length * (vl_E K n (t + 1) 1 - (t + 1)) < vl_pt K n L (vl_E K n (t + 1) 1) + vl_W L * (vl_E K n (t + 1) 1 - t)
  generalize hq : vl_E K n (t + 1) 1 - (t + 1) = q
  have h2 : vl_E K n (t + 1) 1 - t = q + 1 := by omega
  rw [h2]
  have h3 : vl_W L = 8 * vl_w L.length := by
    cases L with
    | nil => rfl
    | cons l L =>
      cases L with
      | nil => rfl
      | cons l L => exact absurd hL (by rw [List.length_cons, List.length_cons]; omega)
  have hw : 1 ≤ vl_w L.length := by
    cases L.length with
    | zero => decide
    | succ _ => exact Nat.le_refl 1
  rw [h3]
  generalize vl_w L.length = w at hw ⊢
  have h4 : (m - 1 - 0) * (w * q) + w * q ≤ 8 * (w * q) := by
    have : (m - 1 - 0) * (w * q) ≤ 7 * (w * q) := Nat.mul_le_mul (by omega) (Nat.le_refl _)
    omega
  have h5 : 8 * w * (q + 1) = 8 * (w * q) + 8 * w := by rw [Nat.mul_add, Nat.mul_one, Nat.mul_assoc]
  omega
theorem vl_pt_next {K : Nat → Nat} {n : Nat} {L : List vl_ln} {t b m e c c' : Nat} {f g g' : Nat → Int32} (he : e + 1 < m) (ht : vl_E K n (b + 1) 1 = t + 1) :
    vl_pt K n ((b, m, f, e + 1, c', g') :: L) (b + 1) < vl_pt K n ((b, m, f, e, c, g) :: L) t := by
  show (vl_pc K n L + vl_W L * (vl_B K n L - vl_E K n (b + 1) 1)) + (m - 1 - (e + 1)) * (vl_w L.length * (vl_E K n (b + 1) 1 - (b + 1))) + vl_w L.length * (vl_E K n (b + 1) 1 - (b + 1)) < (vl_pc K n L + vl_W L * (vl_B K n L - vl_E K n (b + 1) 1)) + (m - 1 - e) * (vl_w L.length * (vl_E K n (b + 1) 1 - (b + 1))) + vl_w L.length * (vl_E K n (b + 1) 1 - t)
  rw [ht, show m - 1 - e = (m - 1 - (e + 1)) + 1 by omega, Nat.succ_mul, show t + 1 - t = 1 by omega]
  have hw : 1 ≤ vl_w L.length := by
    cases L.length with
    | zero => decide
    | succ _ => exact Nat.le_refl 1
  omega
theorem vl_pt_pop {K : Nat → Nat} {n : Nat} {L : List vl_ln} {t b m e c : Nat} {f g : Nat → Int32} (ht : vl_E K n (b + 1) 1 = t + 1) :
    vl_pt K n L (t + 1) < vl_pt K n ((b, m, f, e, c, g) :: L) t := by
  show vl_pc K n L + vl_W L * (vl_B K n L - (t + 1)) < (vl_pc K n L + vl_W L * (vl_B K n L - vl_E K n (b + 1) 1)) + (m - 1 - e) * (vl_w L.length * (vl_E K n (b + 1) 1 - (b + 1))) + vl_w L.length * (vl_E K n (b + 1) 1 - t)
  rw [ht, show t + 1 - t = 1 by omega]
  have hw : 1 ≤ vl_w L.length := by
    cases L.length with
    | zero => decide
    | succ _ => exact Nat.le_refl 1
  omega
