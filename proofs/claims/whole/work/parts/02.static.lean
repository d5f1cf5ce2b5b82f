/-! part 2: what the tokens leave on the stack (top first) and which blocks they leave unended (innermost first); the block's end; steps left -/
def vl_nd (k : Nat) : List Nat :=
  if k < 3 then [] else if k < 9 then [1, 1] else if k = 9 then [1, 1, 1] else if k = 13 then [1, 2] else if k = 14 then [1]
  else if k = 15 then [2, 2] else if k = 21 then [1] else [2]
def vl_gr (k : Nat) : Nat := if k = 1 ∨ 14 ≤ k then 2 else 1
def vl_ss (k : Nat) (s : List Nat × List Nat) : List Nat × List Nat :=
  if k = 19 ∨ k = 20 then (s.1.drop 1, (s.1.length - 1) :: s.2)
  else (vl_gr k :: s.1.drop (vl_nd k).length, if k = 21 then s.2.tail else s.2)
def vl_st (K : Nat → Nat) : Nat → List Nat × List Nat
  | 0 => ([], [])
  | t + 1 => vl_ss (K t) (vl_st K t)
def vl_base (F : List Nat) : Nat := F.headD 0
def vl_fd (k : Nat) (s : List Nat × List Nat) : Prop :=
  ∃ R, s.1 = vl_nd k ++ R ∧ vl_base s.2 ≤ R.length ∧ (k = 21 → s.2 ≠ [] ∧ R.length = vl_base s.2)
def vl_rm (k : Nat) (s : List Nat × List Nat) : Prop := (k < 3 → s.1.length < 6) ∧ (k = 19 ∨ k = 20 → s.2.length < 2)
def vl_ok (k : Nat) (a : Int32) (s : List Nat × List Nat) : Prop :=
  k < 22 ∧ vl_fd k s ∧ vl_rm k s ∧ (k = 1 → ∃ i, i < 3 ∧ a = nI i) ∧ (k = 2 → ∃ i, i < s.2.length ∧ a = nI i)
def vl_PG (K : Nat → Nat) (A : Nat → Int32) (n : Nat) : Prop := ∀ t, t < n → vl_ok (K t) (A t) (vl_st K t)

theorem vl_nd1 {k : Nat} (h : 3 ≤ k) : 1 ≤ (vl_nd k).length := by
  unfold vl_nd
  rw [if_neg (by omega)]
  repeat' split
  all_goals decide
theorem vl_st_congr {K K' : Nat → Nat} : ∀ {t : Nat}, (∀ j, j < t → K j = K' j) → vl_st K t = vl_st K' t := by
  intro t
  induction t with
  | zero => intro _; rfl
  | succ t ih =>
    intro h
    show vl_ss (K t) (vl_st K t) = vl_ss (K' t) (vl_st K' t)
    rw [h t (by omega), ih (fun j hj => h j (by omega))]
/-- what a good token does to the static state -/
theorem vl_ss_ok {k : Nat} {S F : List Nat} (h : vl_fd k (S, F)) : ∃ R, S = vl_nd k ++ R ∧ vl_base F ≤ R.length ∧
    ((k = 19 ∨ k = 20) → vl_ss k (S, F) = (R, R.length :: F)) ∧
    (¬ (k = 19 ∨ k = 20) → vl_ss k (S, F) = (vl_gr k :: R, if k = 21 then F.tail else F)) ∧ (k = 21 → F ≠ [] ∧ R.length = vl_base F) := by
  obtain ⟨R, h1, h2, h3⟩ := h
  have h1' : S = vl_nd k ++ R := h1
  subst h1'
  refine ⟨R, rfl, h2, ?_, ?_, h3⟩
  · intro hk
    have e : vl_nd k = [2] := by rcases hk with rfl | rfl <;> rfl
    unfold vl_ss
    rw [if_pos hk, e]
    rfl
  · intro hk
    unfold vl_ss
    rw [if_neg hk]
    show (vl_gr k :: (vl_nd k ++ R).drop (vl_nd k).length, _) = _
    rw [List.drop_left]
theorem vl_bd1 {k : Nat} {s : List Nat × List Nat} (i1 : s.1.length ≤ 6) (i2 : s.2.length ≤ 2) (h2 : vl_fd k s) (h3 : vl_rm k s) : (vl_ss k s).1.length ≤ 6 ∧ (vl_ss k s).2.length ≤ 2 := by
  obtain ⟨S, F⟩ := s
  obtain ⟨h3, h4⟩ := h3
  obtain ⟨R, e, -, g1, g2, -⟩ := vl_ss_ok h2
  have i1' : S.length ≤ 6 := i1
  have i2' : F.length ≤ 2 := i2
  have el : S.length = (vl_nd k).length + R.length := by rw [e, List.length_append]
  by_cases hk : k = 19 ∨ k = 20
  · rw [g1 hk]
    have h4' : F.length < 2 := h4 hk
    exact ⟨by show R.length ≤ 6; omega, by show (R.length :: F).length ≤ 2; rw [List.length_cons]; omega⟩
  · rw [g2 hk]
    refine ⟨?_, ?_⟩
    · show (vl_gr k :: R).length ≤ 6
      rw [List.length_cons]
      by_cases h5 : k < 3
      · have h3' : S.length < 6 := h3 h5
        omega
      · have := vl_nd1 (k := k) (by omega)
        omega
    · show (if k = 21 then F.tail else F).length ≤ 2
      split
      · rw [List.length_tail]; omega
      · exact i2'
theorem vl_bd {K : Nat → Nat} {A : Nat → Int32} {n : Nat} (h : vl_PG K A n) : ∀ t, t ≤ n → (vl_st K t).1.length ≤ 6 ∧ (vl_st K t).2.length ≤ 2 := by
  intro t
  induction t with
  | zero => intro _; exact ⟨Nat.zero_le _, Nat.zero_le _⟩
  | succ t ih =>
    intro ht
    obtain ⟨i1, i2⟩ := ih (by omega)
    obtain ⟨h1, h2, h3, -⟩ := h t (by omega)
    exact vl_bd1 i1 i2 h2 h3

/-- from t with o blocks unended: behind the end of the o-th -/
def vl_sk (K : Nat → Nat) : Nat → Nat → Nat → Nat
  | 0, t, _ => t
  | _ + 1, t, 0 => t
  | d + 1, t, o + 1 => vl_sk K d (t + 1) (if K t = 19 ∨ K t = 20 then o + 2 else if K t = 21 then o else o + 1)
theorem vl_sk0 (K : Nat → Nat) (d t : Nat) : vl_sk K d t 0 = t := by cases d <;> rfl
theorem vl_sk_in (K : Nat → Nat) : ∀ d t o, t ≤ vl_sk K d t o ∧ vl_sk K d t o ≤ t + d := by
  intro d
  induction d with
  | zero => intro t o; exact ⟨Nat.le_refl _, Nat.le_refl _⟩
  | succ d ih =>
    intro t o
    cases o with
    | zero => rw [vl_sk0]; omega
    | succ o =>
      have := ih (t + 1) (if K t = 19 ∨ K t = 20 then o + 2 else if K t = 21 then o else o + 1)
      show t ≤ vl_sk K d (t + 1) _ ∧ vl_sk K d (t + 1) _ ≤ t + (d + 1)
      omega
theorem vl_sk_add (K : Nat → Nat) : ∀ d t a b, vl_sk K d t (a + b) = vl_sk K (d + t - vl_sk K d t a) (vl_sk K d t a) b := by
  intro d
  induction d with
  | zero =>
    intro t a b
    show t = vl_sk K (0 + t - t) t b
    rw [show 0 + t - t = 0 by omega]
    rfl
  | succ d ih =>
    intro t a b
    cases a with
    | zero => rw [vl_sk0, Nat.zero_add, show d + 1 + t - t = d + 1 by omega]
    | succ a =>
      rw [show a + 1 + b = (a + b) + 1 by omega]
      show vl_sk K d (t + 1) (if K t = 19 ∨ K t = 20 then a + b + 2 else if K t = 21 then a + b else a + b + 1) = vl_sk K (d + 1 + t - vl_sk K d (t + 1) (if K t = 19 ∨ K t = 20 then a + 2 else if K t = 21 then a else a + 1)) (vl_sk K d (t + 1) (if K t = 19 ∨ K t = 20 then a + 2 else if K t = 21 then a else a + 1)) b
      rw [show d + 1 + t = d + (t + 1) by omega, ← ih]
      congr 1
      split
      · omega
      · split <;> omega
def vl_E (K : Nat → Nat) (n t o : Nat) : Nat := vl_sk K (n - t) t o
theorem vl_E0 (K : Nat → Nat) (n t : Nat) : vl_E K n t 0 = t := vl_sk0 K _ t
theorem vl_E_in {K : Nat → Nat} {n t : Nat} (o : Nat) (h : t ≤ n) : t ≤ vl_E K n t o ∧ vl_E K n t o ≤ n := by
  have := vl_sk_in K (n - t) t o
  unfold vl_E
  omega
theorem vl_E_s {K : Nat → Nat} {n t : Nat} (o : Nat) (h : t < n) : vl_E K n t (o + 1) = vl_E K n (t + 1) (if K t = 19 ∨ K t = 20 then o + 2 else if K t = 21 then o else o + 1) := by
  unfold vl_E
  obtain ⟨d, e⟩ : ∃ d, n - t = d + 1 := ⟨n - t - 1, by omega⟩
  rw [e, show n - (t + 1) = d by omega]
  rfl
theorem vl_E_gt {K : Nat → Nat} {n t : Nat} (o : Nat) (h : t < n) : t < vl_E K n t (o + 1) := by
  rw [vl_E_s o h]
  have := (vl_E_in (K := K) (n := n) (t := t + 1) (if K t = 19 ∨ K t = 20 then o + 2 else if K t = 21 then o else o + 1) (by omega)).1
  omega
theorem vl_E_add {K : Nat → Nat} {n t : Nat} (a b : Nat) (h : t ≤ n) : vl_E K n t (a + b) = vl_E K n (vl_E K n t a) b := by
  have := vl_sk_add K (n - t) t a b
  rw [show n - t + t = n by omega] at this
  exact this
/-- a block's body, from any place of it to behind its end -/
theorem vl_blk {K : Nat → Nat} {A : Nat → Int32} {n : Nat} (h : vl_PG K A n) (hn : (vl_st K n).2 = []) (S F : List Nat) : ∀ d t o X Y, t + d = n → vl_st K t = (Y ++ S, X ++ S.length :: F) → X.length + 1 = o → (∀ x, x ∈ X → S.length ≤ x) → vl_st K (vl_sk K d t o) = (2 :: S, F) := by
  intro d
  induction d with
  | zero =>
    intro t o X Y ht hs
    have : t = n := by omega
    subst this
    rw [hs] at hn
    exact absurd hn (by cases X <;> intro z <;> cases z)
  | succ d ih =>
    intro t o X Y ht hs ho hX
    obtain ⟨-, h2, -⟩ := h t (by omega)
    rw [hs] at h2
    obtain ⟨R, e, hb, g1, g2, g3⟩ := vl_ss_ok h2
    have hb2 : S.length ≤ vl_base (X ++ S.length :: F) := by
      cases X with
      | nil => exact Nat.le_refl _
      | cons x X => exact hX x (List.mem_cons_self ..)
    obtain ⟨Y', rfl⟩ : ∃ Y', R = Y' ++ S := by
      have hl : (vl_nd (K t)).length ≤ Y.length := by
        have := congrArg List.length e
        rw [List.length_append, List.length_append] at this
        omega
      have e2 := congrArg (List.drop (vl_nd (K t)).length) e
      rw [List.drop_left, List.drop_append_of_le_length hl] at e2
      exact ⟨_, e2.symm⟩
    subst ho
    have hS : vl_st K (t + 1) = vl_ss (K t) (Y ++ S, X ++ S.length :: F) := by
      show vl_ss (K t) (vl_st K t) = _
      rw [hs]
    show vl_st K (vl_sk K d (t + 1) (if K t = 19 ∨ K t = 20 then X.length + 2 else if K t = 21 then X.length else X.length + 1)) = _
    by_cases hk : K t = 19 ∨ K t = 20
    · rw [if_pos hk]
      refine ih (t + 1) (X.length + 2) ((Y' ++ S).length :: X) Y' (by omega) ?_ rfl ?_
      · rw [hS, g1 hk]; rfl
      · intro x hx
        rcases List.mem_cons.mp hx with rfl | hx
        · rw [List.length_append]; omega
        · exact hX x hx
    · rw [if_neg hk]
      by_cases hk2 : K t = 21
      · rw [if_pos hk2]
        rw [g2 hk, if_pos hk2, hk2] at hS
        cases X with
        | nil =>
          obtain ⟨-, g5⟩ := g3 hk2
          have g5' : (Y' ++ S).length = S.length := g5
          rw [List.length_append] at g5'
          have : Y' = [] := List.length_eq_zero_iff.mp (by omega)
          subst this
          show vl_st K (vl_sk K d (t + 1) 0) = _
          rw [vl_sk0, hS]
          rfl
        | cons x X =>
          refine ih (t + 1) (X.length + 1) X (2 :: Y') (by omega) ?_ rfl ?_
          · rw [hS]; rfl
          · intro y hy; exact hX y (List.mem_cons_of_mem _ hy)
      · rw [if_neg hk2]
        rw [g2 hk, if_neg hk2] at hS
        exact ih (t + 1) (X.length + 1) X (vl_gr (K t) :: Y') (by omega) (by rw [hS]; rfl) rfl hX
