/-! part 6: the lanes and the sorts as they lie in arrays -/
def vl_xL (K : Nat → Nat) (lC lS lP lK lT mC mS : Nat → Int32) : List vl_ln → Prop
  | [] => True
  | (b, m, f, e, c, g) :: L => ((m ≤ 8 ∧ e < m ∧ c ≤ e) ∧ lS L.length = nI m ∧ lP L.length = nI e ∧ lK L.length = nI (K b) ∧ lT L.length = nI (b + 1) ∧ mS L.length = nI c ∧
      (∀ p, p < m → lC (8 * L.length + p) = f p) ∧ (∀ p, p < c → mC (8 * L.length + p) = g p)) ∧ vl_xL K lC lS lP lK lT mC mS L
theorem vl_xL_congr {K : Nat → Nat} {lC lS lP lK lT mC mS lC' lS' lP' lK' lT' mC' mS' : Nat → Int32} : ∀ {L : List vl_ln}, vl_xL K lC lS lP lK lT mC mS L →
    (∀ j, j < 8 * L.length → lC' j = lC j) → (∀ j, j < L.length → lS' j = lS j) → (∀ j, j < L.length → lP' j = lP j) → (∀ j, j < L.length → lK' j = lK j) →
    (∀ j, j < L.length → lT' j = lT j) → (∀ j, j < 8 * L.length → mC' j = mC j) → (∀ j, j < L.length → mS' j = mS j) → vl_xL K lC' lS' lP' lK' lT' mC' mS' L := by
  intro L
  induction L with
  | nil => intro _ _ _ _ _ _ _ _; exact True.intro
  | cons l L ih =>
    obtain ⟨b, m, f, e, c, g⟩ := l
    intro ⟨⟨h0, h1, h2, h3, h4, h5, h6, h7⟩, h8⟩ a1 a2 a3 a4 a5 a6 a7
    rw [List.length_cons] at a1 a2 a3 a4 a5 a6 a7
    refine ⟨⟨h0, ?_, ?_, ?_, ?_, ?_, ?_, ?_⟩, ih h8 (fun j hj => a1 j (by omega)) (fun j hj => a2 j (by omega)) (fun j hj => a3 j (by omega)) (fun j hj => a4 j (by omega)) (fun j hj => a5 j (by omega)) (fun j hj => a6 j (by omega)) (fun j hj => a7 j (by omega))⟩
    · rw [a2 _ (by omega)]; exact h1
    · rw [a3 _ (by omega)]; exact h2
    · rw [a4 _ (by omega)]; exact h3
    · rw [a5 _ (by omega)]; exact h4
    · rw [a7 _ (by omega)]; exact h5
    · intro p hp; rw [a1 _ (by omega)]; exact h6 p hp
    · intro p hp; rw [a6 _ (by omega)]; exact h7 p hp
theorem vl_xL_el {K : Nat → Nat} {lC lS lP lK lT mC mS : Nat → Int32} : ∀ {L : List vl_ln} {i : Nat}, vl_xL K lC lS lP lK lT mC mS L → i < L.length → ∃ e, e < 8 ∧ lP i = nI e ∧ lC (8 * i + e) = vl_el L i := by
  intro L
  induction L with
  | nil => intro i _ h; exact absurd h (by show ¬ i < 0; omega)
  | cons l L ih =>
    obtain ⟨b, m, f, e, c, g⟩ := l
    intro i ⟨⟨h0, h1, h2, h3, h4, h5, h6, h7⟩, h8⟩ hi
    rw [List.length_cons] at hi
    by_cases e1 : i = L.length
    · subst e1
      refine ⟨e, by omega, h2, ?_⟩
      rw [h6 e (by omega)]
      exact (if_pos rfl).symm
    · obtain ⟨e', q1, q2, q3⟩ := ih h8 (i := i) (by omega)
      refine ⟨e', q1, q2, q3.trans ?_⟩
      exact (if_neg e1).symm
def vl_yL (rC rM rE rB oS oC : Nat → Int32) : List vl_ln → Prop
  | [] => True
  | (b, m, f, e, c, g) :: L => ((m ≤ 8 ∧ e < m ∧ c ≤ e) ∧ rM L.length = nI m ∧ rE L.length = nI e ∧ rB L.length = nI b ∧ oS L.length = nI c ∧
      (∀ p, p < m → rC (8 * L.length + p) = f p) ∧ (∀ p, p < c → oC (8 * L.length + p) = g p)) ∧ vl_yL rC rM rE rB oS oC L
theorem vl_yL_congr {rC rM rE rB oS oC rC' rM' rE' rB' oS' oC' : Nat → Int32} : ∀ {L : List vl_ln}, vl_yL rC rM rE rB oS oC L →
    (∀ j, j < 8 * L.length → rC' j = rC j) → (∀ j, j < L.length → rM' j = rM j) → (∀ j, j < L.length → rE' j = rE j) → (∀ j, j < L.length → rB' j = rB j) →
    (∀ j, j < L.length → oS' j = oS j) → (∀ j, j < 8 * L.length → oC' j = oC j) → vl_yL rC' rM' rE' rB' oS' oC' L := by
  intro L
  induction L with
  | nil => intro _ _ _ _ _ _ _; exact True.intro
  | cons l L ih =>
    obtain ⟨b, m, f, e, c, g⟩ := l
    intro ⟨⟨h0, h1, h2, h3, h5, h6, h7⟩, h8⟩ a1 a2 a3 a4 a5 a6
    rw [List.length_cons] at a1 a2 a3 a4 a5 a6
    refine ⟨⟨h0, ?_, ?_, ?_, ?_, ?_, ?_⟩, ih h8 (fun j hj => a1 j (by omega)) (fun j hj => a2 j (by omega)) (fun j hj => a3 j (by omega)) (fun j hj => a4 j (by omega)) (fun j hj => a5 j (by omega)) (fun j hj => a6 j (by omega))⟩
    · rw [a2 _ (by omega)]; exact h1
    · rw [a3 _ (by omega)]; exact h2
    · rw [a4 _ (by omega)]; exact h3
    · rw [a5 _ (by omega)]; exact h5
    · intro p hp; rw [a1 _ (by omega)]; exact h6 p hp
    · intro p hp; rw [a6 _ (by omega)]; exact h7 p hp
theorem vl_yL_el {rC rM rE rB oS oC : Nat → Int32} : ∀ {L : List vl_ln} {i : Nat}, vl_yL rC rM rE rB oS oC L → i < L.length → ∃ e, e < 8 ∧ rE i = nI e ∧ rC (8 * i + e) = vl_el L i := by
  intro L
  induction L with
  | nil => intro i _ h; exact absurd h (by show ¬ i < 0; omega)
  | cons l L ih =>
    obtain ⟨b, m, f, e, c, g⟩ := l
    intro i ⟨⟨h0, h1, h2, h3, h5, h6, h7⟩, h8⟩ hi
    rw [List.length_cons] at hi
    by_cases e1 : i = L.length
    · subst e1
      refine ⟨e, by omega, h2, ?_⟩
      rw [h6 e (by omega)]
      exact (if_pos rfl).symm
    · obtain ⟨e', q1, q2, q3⟩ := ih h8 (i := i) (by omega)
      refine ⟨e', q1, q2, q3.trans ?_⟩
      exact (if_neg e1).symm
/-- a list, top first, as an array from its bottom up -/
def vl_xT (h : Nat → Int32) (a : Nat → Int32) : List Nat → Prop
  | [] => True
  | x :: S => a S.length = h x ∧ vl_xT h a S
theorem vl_xT_congr {h a a' : Nat → Int32} : ∀ {S : List Nat}, vl_xT h a S → (∀ j, j < S.length → a' j = a j) → vl_xT h a' S := by
  intro S
  induction S with
  | nil => intro _ _; exact True.intro
  | cons x S ih =>
    intro ⟨h1, h2⟩ hj
    rw [List.length_cons] at hj
    exact ⟨by rw [hj _ (by omega)]; exact h1, ih h2 (fun j hj' => hj j (by omega))⟩
theorem vl_xT_put {h a : Nat → Int32} {S : List Nat} {x : Nat} {y : Int32} (hS : vl_xT h a S) (hy : y = h x) : vl_xT h (upd a S.length y) (x :: S) :=
  ⟨by rw [pk_us]; exact hy, vl_xT_congr hS (fun j hj => pk_un (by omega))⟩
theorem vl_xT_drop {h a : Nat → Int32} : ∀ {D S : List Nat}, vl_xT h a (D ++ S) → vl_xT h a S := by
  intro D
  induction D with
  | nil => intro S hS; exact hS
  | cons x D ih => intro S hS; exact ih hS.2
/-- a sort as the reference keeps it -/
def vl_yb (x : Nat) : Int32 := if x = 2 then 1 else 0
/-- the sorts on the stack are 1 and 2 alone -/
theorem vl_st_12 {K : Nat → Nat} : ∀ t x, x ∈ (vl_st K t).1 → x = 1 ∨ x = 2 := by
  intro t
  induction t with
  | zero => intro x hx; cases hx
  | succ t ih =>
    intro x hx
    have hx : x ∈ (vl_ss (K t) (vl_st K t)).1 := hx
    unfold vl_ss at hx
    by_cases hk : K t = 19 ∨ K t = 20
    · rw [if_pos hk] at hx
      exact ih x (List.mem_of_mem_drop hx)
    · rw [if_neg hk] at hx
      rcases List.mem_cons.mp hx with rfl | hx
      · unfold vl_gr
        split
        · exact Or.inr rfl
        · exact Or.inl rfl
      · exact ih x (List.mem_of_mem_drop hx)
