/-! part 5: rows: exchanges, counts, the two ways to sort -/
def vl_sw (f : Nat → Int32) (i : Nat) : Nat → Int32 := fun j => if j = i then f (i + 1) else if j = i + 1 then f i else f j
theorem vl_sw0 {f : Nat → Int32} {i : Nat} : vl_sw f i i = f (i + 1) := if_pos rfl
theorem vl_sw1 {f : Nat → Int32} {i : Nat} : vl_sw f i (i + 1) = f i := by unfold vl_sw; rw [if_neg (by omega), if_pos rfl]
theorem vl_swn {f : Nat → Int32} {i j : Nat} (h : j ≠ i) (h2 : j ≠ i + 1) : vl_sw f i j = f j := by unfold vl_sw; rw [if_neg h, if_neg h2]
theorem vl_ct_congr {f g : Nat → Int32} {v : Int32} : ∀ {m : Nat}, (∀ p, p < m → f p = g p) → vl_ct f v m = vl_ct g v m := by
  intro m
  induction m with
  | zero => intro _; rfl
  | succ m ih =>
    intro h
    show vl_ct f v m + _ = vl_ct g v m + _
    rw [ih (fun p hp => h p (by omega)), h m (by omega)]
theorem vl_ct_sw {f : Nat → Int32} {v : Int32} {i : Nat} : ∀ {m : Nat}, i + 1 < m → vl_ct (vl_sw f i) v m = vl_ct f v m := by
  intro m
  induction m with
  | zero => intro h; omega
  | succ m ih =>
    intro h
    show vl_ct (vl_sw f i) v m + (if vl_sw f i m = v then 1 else 0) = vl_ct f v m + (if f m = v then 1 else 0)
    by_cases h2 : i + 1 < m
    · rw [ih h2, vl_swn (by omega) (by omega)]
    · have : m = i + 1 := by omega
      subst this
      show (vl_ct (vl_sw f i) v i + (if vl_sw f i i = v then 1 else 0)) + (if vl_sw f i (i + 1) = v then 1 else 0) = (vl_ct f v i + (if f i = v then 1 else 0)) + (if f (i + 1) = v then 1 else 0)
      rw [vl_sw0, vl_sw1, vl_ct_congr (f := vl_sw f i) (g := f) (m := i) (fun p hp => vl_swn (by omega) (by omega))]
      omega
theorem vl_ct_pos {f : Nat → Int32} {v : Int32} : ∀ {m : Nat}, 1 ≤ vl_ct f v m → ∃ p, p < m ∧ f p = v := by
  intro m
  induction m with
  | zero => intro h; exact absurd h (by show ¬ 1 ≤ 0; omega)
  | succ m ih =>
    intro h
    by_cases e : f m = v
    · exact ⟨m, by omega, e⟩
    · have h' : 1 ≤ vl_ct f v m + (if f m = v then 1 else 0) := h
      rw [if_neg e] at h'
      obtain ⟨p, hp, e2⟩ := ih (by omega)
      exact ⟨p, by omega, e2⟩
theorem vl_ct_last {f : Nat → Int32} {m : Nat} : 1 ≤ vl_ct f (f m) (m + 1) := by
  show 1 ≤ vl_ct f (f m) m + (if f m = f m then 1 else 0)
  rw [if_pos rfl]
  omega
theorem vl_As_last {g : Nat → Int32} {m p : Nat} (h : vl_As (m + 1) g) (hp : p < m + 1) : g p ≤ g m := by
  by_cases e : p = m
  · rw [e]; exact Int32.le_refl _
  · exact h p m (by omega) (by omega)
theorem vl_As_uniq {g k : Nat → Int32} : ∀ {m : Nat}, vl_As m g → vl_As m k → (∀ v, vl_ct g v m = vl_ct k v m) → ∀ p, p < m → g p = k p := by
  intro m
  induction m with
  | zero => intro _ _ _ p hp; omega
  | succ m ih =>
    intro hg hk hc p hp
    have e : g m = k m := by
      obtain ⟨q, hq, e1⟩ := vl_ct_pos (f := k) (v := g m) (m := m + 1) (by rw [← hc]; exact vl_ct_last)
      obtain ⟨q', hq', e2⟩ := vl_ct_pos (f := g) (v := k m) (m := m + 1) (by rw [hc]; exact vl_ct_last)
      have a1 := vl_As_last hk hq
      have a2 := vl_As_last hg hq'
      rw [e1] at a1
      rw [e2] at a2
      exact Int32.le_antisymm a1 a2
    by_cases ep : p = m
    · rw [ep]; exact e
    · refine ih (fun a b h1 h2 => hg a b h1 (by omega)) (fun a b h1 h2 => hk a b h1 (by omega)) ?_ p (by omega)
      intro v
      have h1 : vl_ct g v m + (if g m = v then 1 else 0) = vl_ct k v m + (if k m = v then 1 else 0) := hc v
      rw [e] at h1
      omega
theorem vl_so_eq {m : Nat} {f g : Nat → Int32} (h : vl_Sd m f g) : ∀ p, p < m → g p = vl_so m f p := by
  have h2 : vl_Sd m f (vl_so m f) := by
    have hx : ∃ g, vl_Sd m f g := ⟨g, h⟩
    have e : vl_so m f = Classical.choose hx := dif_pos hx
    rw [e]
    exact Classical.choose_spec hx
  exact vl_As_uniq h.1 h2.1 (fun v => (h.2 v).trans (h2.2 v).symm)
/-- insertion: below c all ascend but the one at d, which is no greater than those behind it -/
def vl_IA (c d : Nat) (f : Nat → Int32) : Prop := (∀ p q, p < q → q ≤ c → p ≠ d → q ≠ d → f p ≤ f q) ∧ ∀ q, d < q → q ≤ c → f d ≤ f q
theorem vl_IA0 {c : Nat} {f : Nat → Int32} (h : vl_As c f) : vl_IA c c f :=
  ⟨fun p q h1 h2 _ h4 => h p q h1 (by omega), fun q h1 h2 => by omega⟩
theorem vl_IAs {c d : Nat} {f : Nat → Int32} (h : vl_IA c (d + 1) f) (hd : d + 1 ≤ c) (hg : f (d + 1) ≤ f d) : vl_IA c d (vl_sw f d) := by
  obtain ⟨h1, h2⟩ := h
  refine ⟨?_, ?_⟩
  · intro p q hpq hq hp hq2
    by_cases e1 : p = d + 1
    · subst e1
      rw [vl_sw1, vl_swn (by omega) (by omega)]
      exact h1 d q (by omega) hq (by omega) (by omega)
    · by_cases e2 : q = d + 1
      · subst e2
        rw [vl_sw1, vl_swn hp e1]
        exact h1 p d (by omega) (by omega) (by omega) (by omega)
      · rw [vl_swn hp e1, vl_swn hq2 e2]
        exact h1 p q hpq hq e1 e2
  · intro q h3 h4
    rw [vl_sw0]
    by_cases e2 : q = d + 1
    · subst e2
      rw [vl_sw1]
      exact hg
    · rw [vl_swn (by omega) e2]
      exact h2 q (by omega) h4
theorem vl_IAx {c d : Nat} {f : Nat → Int32} (h : vl_IA c d f) (hx : d = 0 ∨ f (d - 1) ≤ f d) : vl_As (c + 1) f := by
  obtain ⟨h1, h2⟩ := h
  intro p q hpq hq
  by_cases e1 : p = d
  · subst e1; exact h2 q hpq (by omega)
  · by_cases e2 : q = d
    · subst e2
      rcases hx with rfl | hx
      · omega
      · by_cases e3 : p = q - 1
        · subst e3; exact hx
        · exact Int32.le_trans (h1 p (q - 1) (by omega) (by omega) (by omega) (by omega)) hx
    · exact h1 p q hpq (by omega) e1 e2
/-- bubbles: from M on each is no less than all before it -/
def vl_BT (m M : Nat) (f : Nat → Int32) : Prop := ∀ p q, p < q → q < m → M ≤ q → f p ≤ f q
def vl_Bi (m M l : Nat) (f : Nat → Int32) : Prop := vl_BT m M f ∧ (l < M → ∀ p, p < l → f p ≤ f l) ∧ (M ≤ l → vl_BT m (M - 1) f)
theorem vl_Bi0 {m M : Nat} {f : Nat → Int32} (h : vl_BT m M f) : vl_Bi m M 0 f := by
  refine ⟨h, fun _ p hp => by omega, fun hM => ?_⟩
  have : M - 1 = M := by omega
  rw [this]; exact h
theorem vl_Bis {m M l : Nat} {f : Nat → Int32} (h : vl_Bi m M l f) (hl : l + 1 < m) (hg : ¬ f l ≤ f (l + 1)) : vl_Bi m M (l + 1) (vl_sw f l) := by
  obtain ⟨h1, h2, h3⟩ := h
  have hg2 : f (l + 1) ≤ f l := Int32.le_of_lt (Int32.not_le.mp hg)
  have hM : l + 1 < M := by
    by_cases z : l + 1 < M
    · exact z
    · exact absurd (h1 l (l + 1) (by omega) hl (by omega)) hg
  refine ⟨?_, ?_, fun z => by omega⟩
  · intro p q hpq hq hMq
    rw [vl_swn (j := q) (by omega) (by omega)]
    by_cases e1 : p = l
    · subst e1; rw [vl_sw0]; exact h1 _ _ (by omega) hq hMq
    · by_cases e2 : p = l + 1
      · subst e2; rw [vl_sw1]; exact h1 _ _ (by omega) hq hMq
      · rw [vl_swn e1 e2]; exact h1 p q hpq hq hMq
  · intro _ p hp
    rw [vl_sw1]
    by_cases e1 : p = l
    · subst e1; rw [vl_sw0]; exact hg2
    · rw [vl_swn e1 (by omega)]; exact h2 (by omega) p (by omega)
theorem vl_Bin {m M l : Nat} {f : Nat → Int32} (h : vl_Bi m M l f) (hg : f l ≤ f (l + 1)) : vl_Bi m M (l + 1) f := by
  obtain ⟨h1, h2, h3⟩ := h
  refine ⟨h1, ?_, ?_⟩
  · intro hM p hp
    by_cases e1 : p = l
    · subst e1; exact hg
    · exact Int32.le_trans (h2 (by omega) p (by omega)) hg
  · intro hM
    by_cases e : M ≤ l
    · exact h3 e
    · intro p q hpq hq hMq
      by_cases e2 : q = l
      · subst e2; exact h2 (by omega) p hpq
      · exact h1 p q hpq hq (by omega)
theorem vl_Bix {m M l : Nat} {f : Nat → Int32} (h : vl_Bi m M l f) (hl : m ≤ l + 1) (hM : M ≤ m) : vl_BT m (M - 1) f := by
  obtain ⟨h1, h2, h3⟩ := h
  by_cases e : M ≤ l
  · exact h3 e
  · intro p q hpq hq hMq
    by_cases e2 : q = l
    · subst e2; exact h2 (by omega) p hpq
    · exact h1 p q hpq hq (by omega)
theorem vl_BTx {m : Nat} {f : Nat → Int32} (h : vl_BT m 0 f) : vl_As m f := fun p q h1 h2 => h p q h1 h2 (Nat.zero_le _)

/-! the stack and the lanes as they lie in arrays (the component's and the reference's alike) -/
def vl_xS (C Z : Nat → Int32) : List vl_rw → Prop
  | [] => True
  | r :: s => (Z s.length = nI r.1 ∧ r.1 ≤ 8 ∧ ∀ p, p < r.1 → C (8 * s.length + p) = r.2 p) ∧ vl_xS C Z s
theorem vl_xS_congr {C Z C' Z' : Nat → Int32} : ∀ {s : List vl_rw}, vl_xS C Z s → (∀ j, j < 8 * s.length → C' j = C j) → (∀ j, j < s.length → Z' j = Z j) → vl_xS C' Z' s := by
  intro s
  induction s with
  | nil => intro _ _ _; exact True.intro
  | cons r s ih =>
    intro ⟨⟨h1, h2, h3⟩, h4⟩ hC hZ
    rw [List.length_cons] at hC hZ
    refine ⟨⟨?_, h2, ?_⟩, ih h4 (fun j hj => hC j (by omega)) (fun j hj => hZ j (by omega))⟩
    · rw [hZ _ (by omega)]; exact h1
    · intro p hp; rw [hC _ (by omega)]; exact h3 p hp
theorem vl_xS_push {C Z C' Z' : Nat → Int32} {s : List vl_rw} {r : vl_rw} (h : vl_xS C Z s) (h8 : r.1 ≤ 8) (hz : Z' s.length = nI r.1) (hc : ∀ p, p < r.1 → C' (8 * s.length + p) = r.2 p)
    (hC : ∀ j, j < 8 * s.length → C' j = C j) (hZ : ∀ j, j < s.length → Z' j = Z j) : vl_xS C' Z' (r :: s) :=
  ⟨⟨hz, h8, hc⟩, vl_xS_congr h hC hZ⟩
theorem vl_xS_num {C Z : Nat → Int32} {s : List vl_rw} {v : Int32} (h : vl_xS C Z s) : vl_xS (upd C (8 * s.length) v) (upd Z s.length 1) ((1, fun _ => v) :: s) := by
  refine vl_xS_push h (show 1 ≤ 8 by decide) pk_us ?_ (fun j hj => pk_un (by omega)) (fun j hj => pk_un (by omega))
  intro p hp
  have : p = 0 := by have : p < 1 := hp; omega
  subst this
  exact pk_us
theorem vl_xS_len {C Z : Nat → Int32} {s : List vl_rw} {r : vl_rw} (h : vl_xS C Z (r :: s)) : Z s.length = nI r.1 := h.1.1
theorem vl_xS_0 {C Z : Nat → Int32} {s : List vl_rw} {r : vl_rw} (h : vl_xS C Z (r :: s)) (h1 : r.1 = 1) : C (8 * s.length) = r.2 0 := h.1.2.2 0 (by omega)
