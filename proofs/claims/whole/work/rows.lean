section
/-! part 1: numbers and stores (rows pk_.. are pasted from kit/rows) -/
theorem pk_us {f : Nat → Int32} {k : Nat} {x : Int32} : upd f k x k = x := if_pos rfl
theorem pk_un {f : Nat → Int32} {k j : Nat} {x : Int32} (h : j ≠ k) : upd f k x j = f j := if_neg h
theorem pk_sub {a b : Nat} (h : b ≤ a) : nI a - nI b = nI (a - b) := by
  obtain ⟨c, rfl⟩ : ∃ c, a = c + b := ⟨a - b, by omega⟩
  rw [← nI_add, Int32.add_sub_cancel, Nat.add_sub_cancel]
theorem pk_m1 (n : Nat) : nI (n + 1) + (-1) = nI n := by
  rw [← nI_1, Int32.add_assoc, show (1 : Int32) + (-1) = 0 from rfl, Int32.add_zero]
theorem pk_mul (a b : Nat) : nI a * nI b = nI (a * b) := (Int32.ofNat_mul a b).symm
theorem pk_div {a d : Nat} (ha : a < 2 ^ 31) (h0 : 0 < d) (hd : d < 2 ^ 31) : nI a / nI d = nI (a / d) := by
  apply Int32.toInt_inj.mp
  rw [lg_idiv_nonneg (by rw [nI_toInt ha]; omega) (by rw [nI_toInt hd]; omega), nI_toInt ha, nI_toInt hd, nI_toInt (Nat.lt_of_le_of_lt (Nat.div_le_self a d) ha)]
  first | rfl | exact (Int.natCast_ediv _ _).symm
theorem pk_ix (x : Int32) {n : Nat} (hn : n < 2 ^ 31) : x < 0 ∨ nI n ≤ x ∨ ∃ j : Nat, j < n ∧ x = nI j := by
  by_cases h : x < 0
  · exact Or.inl h
  · obtain ⟨j, hj, rfl⟩ := nI_of h
    by_cases h2 : j < n
    · exact Or.inr (Or.inr ⟨j, h2, rfl⟩)
    · exact Or.inr (Or.inl (nI_le (by omega) hj))
theorem pk_le {x y : Int32} {A B : Prop} (a b : Nat) (f : a ≤ b → A) (g : b < a → B) (hx : x = nI a := by rfl) (hy : y = nI b := by rfl) (ha : a < 2 ^ 31 := by omega) (hb : b < 2 ^ 31 := by omega) : (x ≤ y → A) ∧ (¬ x ≤ y → B) := by
  subst hx hy
  rw [nI_leI ha hb]
  exact ⟨f, fun z => g (by omega)⟩
theorem pk_lt {x y : Int32} {A B : Prop} (a b : Nat) (f : a < b → A) (g : b ≤ a → B) (hx : x = nI a := by rfl) (hy : y = nI b := by rfl) (ha : a < 2 ^ 31 := by omega) (hb : b < 2 ^ 31 := by omega) : (x < y → A) ∧ (¬ x < y → B) := by
  subst hx hy
  rw [nI_ltI ha hb]
  exact ⟨f, fun z => g (by omega)⟩
theorem pk_eq {x y : Int32} {A B : Prop} (a b : Nat) (f : a = b → A) (g : a ≠ b → B) (hx : x = nI a := by rfl) (hy : y = nI b := by rfl) (ha : a < 2 ^ 31 := by omega) (hb : b < 2 ^ 31 := by omega) : (x = y → A) ∧ (¬ x = y → B) := by
  subst hx hy
  rw [nI_eq ha hb]
  exact ⟨f, g⟩
theorem pk_in {x : Int32} (n N : Nat) (h : n < N) (hx : x = nI n := by rfl) (hN : N < 2 ^ 31 := by omega) : vp_in x N := by
  subst hx
  exact vp_in_nI h hN
theorem pk_cl {x : Int32} (n : Nat) (hx : x = nI n := by rfl) (h : n < 2 ^ 31 := by omega) : x.toNatClampNeg = n := by
  subst hx
  exact nI_clamp h
theorem vl_sub1 (a : Nat) (h : 1 ≤ a) : nI a - 1 = nI (a - 1) := by
  obtain ⟨c, rfl⟩ : ∃ c, a = c + 1 := ⟨a - 1, by omega⟩
  exact nI_pred c
theorem vl_m8 (a : Nat) : nI a * 8 = nI (8 * a) := by
  have h : nI a * nI 8 = nI (a * 8) := pk_mul a 8
  rw [Nat.mul_comm 8 a]; exact h
theorem vl_8m (a : Nat) : 8 * nI a = nI (8 * a) := by
  have h : nI 8 * nI a = nI (8 * a) := pk_mul 8 a
  exact h
theorem vl_a8 (a : Nat) : nI a + 8 = nI (a + 8) := nI_add a 8
theorem vl_a16 (a : Nat) : nI a + 16 = nI (a + 16) := nI_add a 16
theorem vl_d2 {a : Nat} (h : a < 2 ^ 31) : nI a / 2 = nI (a / 2) := pk_div (d := 2) h (by decide) (by decide)
theorem vl_z {a : Nat} (h : a < 2 ^ 31) : nI a = 0 ↔ a = 0 := nI_eq (b := 0) h (by decide)
theorem vl_in {a N : Nat} (h : a < N) (hN : N < 2 ^ 31) : vp_in (nI a) N ↔ True := iff_true_intro (vp_in_nI h hN)
end
section
/-! part 2: what the tokens leave on the stack (top first) and which blocks they leave unended (innermost first); the block's end; steps left -/
def vl_nd (k : Nat) : List Nat :=
  if k < 3 then [] else if k < 9 then [1, 1] else if k = 9 then [1, 1, 1] else if k = 13 then [1, 2] else if k = 14 then [1]
  else if k = 15 then [2, 2] else if k = 21 then [1] else [2]
def vl_gr (k : Nat) : Nat := if k = 1 ∨ 14 ≤ k then 2 else 1
def vl_ss (k : Nat) (s : List Nat × List Nat) : List Nat × List Nat :=
  if k = 19 ∨ k = 20 then (s.1.drop 1, (s.1.length - 1) :: s.2)
  else (vl_gr k :: s.1.drop (vl_nd k).length, if k = 21 then s.2.tail else s.2)
def vl_st (K : Nat → Nat) : Nat → List Nat × List Nat
  | 0 => ([], [])
  | t + 1 => vl_ss (K t) (vl_st K t)
def vl_base (F : List Nat) : Nat := F.headD 0
def vl_fd (k : Nat) (s : List Nat × List Nat) : Prop :=
  ∃ R, s.1 = vl_nd k ++ R ∧ vl_base s.2 ≤ R.length ∧ (k = 21 → s.2 ≠ [] ∧ R.length = vl_base s.2)
def vl_rm (k : Nat) (s : List Nat × List Nat) : Prop := (k < 3 → s.1.length < 6) ∧ (k = 19 ∨ k = 20 → s.2.length < 2)
def vl_ok (k : Nat) (a : Int32) (s : List Nat × List Nat) : Prop :=
  k < 22 ∧ vl_fd k s ∧ vl_rm k s ∧ (k = 1 → ∃ i, i < 3 ∧ a = nI i) ∧ (k = 2 → ∃ i, i < s.2.length ∧ a = nI i)
def vl_PG (K : Nat → Nat) (A : Nat → Int32) (n : Nat) : Prop := ∀ t, t < n → vl_ok (K t) (A t) (vl_st K t)

theorem vl_nd1 {k : Nat} (h : 3 ≤ k) : 1 ≤ (vl_nd k).length := by
  unfold vl_nd
  rw [if_neg (by omega)]
  repeat' split
  all_goals decide
theorem vl_st_congr {K K' : Nat → Nat} : ∀ {t : Nat}, (∀ j, j < t → K j = K' j) → vl_st K t = vl_st K' t := by
  intro t
  induction t with
  | zero => intro _; rfl
  | succ t ih =>
    intro h
    show vl_ss (K t) (vl_st K t) = vl_ss (K' t) (vl_st K' t)
    rw [h t (by omega), ih (fun j hj => h j (by omega))]
/-- what a good token does to the static state -/
theorem vl_ss_ok {k : Nat} {S F : List Nat} (h : vl_fd k (S, F)) : ∃ R, S = vl_nd k ++ R ∧ vl_base F ≤ R.length ∧
    ((k = 19 ∨ k = 20) → vl_ss k (S, F) = (R, R.length :: F)) ∧
    (¬ (k = 19 ∨ k = 20) → vl_ss k (S, F) = (vl_gr k :: R, if k = 21 then F.tail else F)) ∧ (k = 21 → F ≠ [] ∧ R.length = vl_base F) := by
  obtain ⟨R, h1, h2, h3⟩ := h
  have h1' : S = vl_nd k ++ R := h1
  subst h1'
  refine ⟨R, rfl, h2, ?_, ?_, h3⟩
  · intro hk
    have e : vl_nd k = [2] := by rcases hk with rfl | rfl <;> rfl
    unfold vl_ss
    rw [if_pos hk, e]
    rfl
  · intro hk
    unfold vl_ss
    rw [if_neg hk]
    show (vl_gr k :: (vl_nd k ++ R).drop (vl_nd k).length, _) = _
    rw [List.drop_left]
theorem vl_bd1 {k : Nat} {s : List Nat × List Nat} (i1 : s.1.length ≤ 6) (i2 : s.2.length ≤ 2) (h2 : vl_fd k s) (h3 : vl_rm k s) : (vl_ss k s).1.length ≤ 6 ∧ (vl_ss k s).2.length ≤ 2 := by
  obtain ⟨S, F⟩ := s
  obtain ⟨h3, h4⟩ := h3
  obtain ⟨R, e, -, g1, g2, -⟩ := vl_ss_ok h2
  have i1' : S.length ≤ 6 := i1
  have i2' : F.length ≤ 2 := i2
  have el : S.length = (vl_nd k).length + R.length := by rw [e, List.length_append]
  by_cases hk : k = 19 ∨ k = 20
  · rw [g1 hk]
    have h4' : F.length < 2 := h4 hk
    exact ⟨by show R.length ≤ 6; omega, by show (R.length :: F).length ≤ 2; rw [List.length_cons]; omega⟩
  · rw [g2 hk]
    refine ⟨?_, ?_⟩
    · show (vl_gr k :: R).length ≤ 6
      rw [List.length_cons]
      by_cases h5 : k < 3
      · have h3' : S.length < 6 := h3 h5
        omega
      · have := vl_nd1 (k := k) (by omega)
        omega
    · show (if k = 21 then F.tail else F).length ≤ 2
      split
      · rw [List.length_tail]; omega
      · exact i2'
theorem vl_bd {K : Nat → Nat} {A : Nat → Int32} {n : Nat} (h : vl_PG K A n) : ∀ t, t ≤ n → (vl_st K t).1.length ≤ 6 ∧ (vl_st K t).2.length ≤ 2 := by
  intro t
  induction t with
  | zero => intro _; exact ⟨Nat.zero_le _, Nat.zero_le _⟩
  | succ t ih =>
    intro ht
    obtain ⟨i1, i2⟩ := ih (by omega)
    obtain ⟨h1, h2, h3, -⟩ := h t (by omega)
    exact vl_bd1 i1 i2 h2 h3

/-- from t with o blocks unended: behind the end of the o-th -/
def vl_sk (K : Nat → Nat) : Nat → Nat → Nat → Nat
  | 0, t, _ => t
  | _ + 1, t, 0 => t
  | d + 1, t, o + 1 => vl_sk K d (t + 1) (if K t = 19 ∨ K t = 20 then o + 2 else if K t = 21 then o else o + 1)
theorem vl_sk0 (K : Nat → Nat) (d t : Nat) : vl_sk K d t 0 = t := by cases d <;> rfl
theorem vl_sk_in (K : Nat → Nat) : ∀ d t o, t ≤ vl_sk K d t o ∧ vl_sk K d t o ≤ t + d := by
  intro d
  induction d with
  | zero => intro t o; exact ⟨Nat.le_refl _, Nat.le_refl _⟩
  | succ d ih =>
    intro t o
    cases o with
    | zero => rw [vl_sk0]; omega
    | succ o =>
      have := ih (t + 1) (if K t = 19 ∨ K t = 20 then o + 2 else if K t = 21 then o else o + 1)
      show t ≤ vl_sk K d (t + 1) _ ∧ vl_sk K d (t + 1) _ ≤ t + (d + 1)
      omega
theorem vl_sk_add (K : Nat → Nat) : ∀ d t a b, vl_sk K d t (a + b) = vl_sk K (d + t - vl_sk K d t a) (vl_sk K d t a) b := by
  intro d
  induction d with
  | zero =>
    intro t a b
    show t = vl_sk K (0 + t - t) t b
    rw [show 0 + t - t = 0 by omega]
    rfl
  | succ d ih =>
    intro t a b
    cases a with
    | zero => rw [vl_sk0, Nat.zero_add, show d + 1 + t - t = d + 1 by omega]
    | succ a =>
      rw [show a + 1 + b = (a + b) + 1 by omega]
      show vl_sk K d (t + 1) (if K t = 19 ∨ K t = 20 then a + b + 2 else if K t = 21 then a + b else a + b + 1) = vl_sk K (d + 1 + t - vl_sk K d (t + 1) (if K t = 19 ∨ K t = 20 then a + 2 else if K t = 21 then a else a + 1)) (vl_sk K d (t + 1) (if K t = 19 ∨ K t = 20 then a + 2 else if K t = 21 then a else a + 1)) b
      rw [show d + 1 + t = d + (t + 1) by omega, ← ih]
      congr 1
      split
      · omega
      · split <;> omega
def vl_E (K : Nat → Nat) (n t o : Nat) : Nat := vl_sk K (n - t) t o
theorem vl_E0 (K : Nat → Nat) (n t : Nat) : vl_E K n t 0 = t := vl_sk0 K _ t
theorem vl_E_in {K : Nat → Nat} {n t : Nat} (o : Nat) (h : t ≤ n) : t ≤ vl_E K n t o ∧ vl_E K n t o ≤ n := by
  have := vl_sk_in K (n - t) t o
  unfold vl_E
  omega
theorem vl_E_s {K : Nat → Nat} {n t : Nat} (o : Nat) (h : t < n) : vl_E K n t (o + 1) = vl_E K n (t + 1) (if K t = 19 ∨ K t = 20 then o + 2 else if K t = 21 then o else o + 1) := by
  unfold vl_E
  obtain ⟨d, e⟩ : ∃ d, n - t = d + 1 := ⟨n - t - 1, by omega⟩
  rw [e, show n - (t + 1) = d by omega]
  rfl
theorem vl_E_gt {K : Nat → Nat} {n t : Nat} (o : Nat) (h : t < n) : t < vl_E K n t (o + 1) := by
  rw [vl_E_s o h]
  have := (vl_E_in (K := K) (n := n) (t := t + 1) (if K t = 19 ∨ K t = 20 then o + 2 else if K t = 21 then o else o + 1) (by omega)).1
  omega
theorem vl_E_add {K : Nat → Nat} {n t : Nat} (a b : Nat) (h : t ≤ n) : vl_E K n t (a + b) = vl_E K n (vl_E K n t a) b := by
  have := vl_sk_add K (n - t) t a b
  rw [show n - t + t = n by omega] at this
  exact this
/-- a block's body, from any place of it to behind its end -/
theorem vl_blk {K : Nat → Nat} {A : Nat → Int32} {n : Nat} (h : vl_PG K A n) (hn : (vl_st K n).2 = []) (S F : List Nat) : ∀ d t o X Y, t + d = n → vl_st K t = (Y ++ S, X ++ S.length :: F) → X.length + 1 = o → (∀ x, x ∈ X → S.length ≤ x) → vl_st K (vl_sk K d t o) = (2 :: S, F) := by
  intro d
  induction d with
  | zero =>
    intro t o X Y ht hs
    have : t = n := by omega
    subst this
    rw [hs] at hn
    exact absurd hn (by cases X <;> intro z <;> cases z)
  | succ d ih =>
    intro t o X Y ht hs ho hX
    obtain ⟨-, h2, -⟩ := h t (by omega)
    rw [hs] at h2
    obtain ⟨R, e, hb, g1, g2, g3⟩ := vl_ss_ok h2
    have hb2 : S.length ≤ vl_base (X ++ S.length :: F) := by
      cases X with
      | nil => exact Nat.le_refl _
      | cons x X => exact hX x (List.mem_cons_self ..)
    obtain ⟨Y', rfl⟩ : ∃ Y', R = Y' ++ S := by
      have hl : (vl_nd (K t)).length ≤ Y.length := by
        have := congrArg List.length e
        rw [List.length_append, List.length_append] at this
        omega
      have e2 := congrArg (List.drop (vl_nd (K t)).length) e
      rw [List.drop_left, List.drop_append_of_le_length hl] at e2
      exact ⟨_, e2.symm⟩
    subst ho
    have hS : vl_st K (t + 1) = vl_ss (K t) (Y ++ S, X ++ S.length :: F) := by
      show vl_ss (K t) (vl_st K t) = _
      rw [hs]
    show vl_st K (vl_sk K d (t + 1) (if K t = 19 ∨ K t = 20 then X.length + 2 else if K t = 21 then X.length else X.length + 1)) = _
    by_cases hk : K t = 19 ∨ K t = 20
    · rw [if_pos hk]
      refine ih (t + 1) (X.length + 2) ((Y' ++ S).length :: X) Y' (by omega) ?_ rfl ?_
      · rw [hS, g1 hk]; rfl
      · intro x hx
        rcases List.mem_cons.mp hx with rfl | hx
        · rw [List.length_append]; omega
        · exact hX x hx
    · rw [if_neg hk]
      by_cases hk2 : K t = 21
      · rw [if_pos hk2]
        rw [g2 hk, if_pos hk2, hk2] at hS
        cases X with
        | nil =>
          obtain ⟨-, g5⟩ := g3 hk2
          have g5' : (Y' ++ S).length = S.length := g5
          rw [List.length_append] at g5'
          have : Y' = [] := List.length_eq_zero_iff.mp (by omega)
          subst this
          show vl_st K (vl_sk K d (t + 1) 0) = _
          rw [vl_sk0, hS]
          rfl
        | cons x X =>
          refine ih (t + 1) (X.length + 1) X (2 :: Y') (by omega) ?_ rfl ?_
          · rw [hS]; rfl
          · intro y hy; exact hX y (List.mem_cons_of_mem _ hy)
      · rw [if_neg hk2]
        rw [g2 hk, if_neg hk2] at hS
        exact ih (t + 1) (X.length + 1) X (vl_gr (K t) :: Y') (by omega) (by rw [hS]; rfl) rfl hX
end
section
/-! part 3: the pure machine: a row is its length and its elements; the stack top first; a lane is (its token, length, elements, place, made length, made elements), innermost first -/
abbrev vl_rw : Type := Nat × (Nat → Int32)
abbrev vl_ln : Type := Nat × Nat × (Nat → Int32) × Nat × Nat × (Nat → Int32)
def vl_el : List vl_ln → Nat → Int32
  | [], _ => 0
  | (_, _, f, e, _, _) :: L, i => if i = L.length then f e else vl_el L i
def vl_cm (k : Nat) (n m : Int32) : Int32 :=
  if k = 3 then n + m else if k = 4 then n - m else if k = 5 then n * m else if k = 6 then (if m = 0 then 0 else n / m)
  else if k = 7 then (if n < m then 1 else 0) else (if n = m then 1 else 0)
def vl_sm (f : Nat → Int32) : Nat → Int32
  | 0 => 0
  | p + 1 => vl_sm f p + f p
def vl_mx (f : Nat → Int32) : Nat → Int32
  | 0 => 0
  | 1 => f 0
  | p + 2 => if vl_mx f (p + 1) < f (p + 1) then f (p + 1) else vl_mx f (p + 1)
def vl_at (i : Int32) (r : vl_rw) : Int32 := if 0 ≤ i ∧ i < nI r.1 then r.2 i.toNatClampNeg else 0
def vl_cl (c : Int32) : Nat := if c < 0 then 0 else if 8 < c then 8 else c.toNatClampNeg
/-- ascending below m -/
def vl_As (m : Nat) (f : Nat → Int32) : Prop := ∀ p q, p < q → q < m → f p ≤ f q
/-- how often v stands below m -/
def vl_ct (f : Nat → Int32) (v : Int32) : Nat → Nat
  | 0 => 0
  | p + 1 => vl_ct f v p + (if f p = v then 1 else 0)
def vl_Sd (m : Nat) (f g : Nat → Int32) : Prop := vl_As m g ∧ ∀ v, vl_ct g v m = vl_ct f v m
noncomputable def vl_so (m : Nat) (f : Nat → Int32) : Nat → Int32 := by
  classical
  exact if h : ∃ g, vl_Sd m f g then Classical.choose h else f
noncomputable def vl_ap (zs : Nat → Nat) (inp : Nat → Nat → Int32) (L : List vl_ln) (a : Int32) (k : Nat) (s : List vl_rw) : List vl_rw :=
  if k = 0 then (1, fun _ => a) :: s
  else if k = 1 then (zs a.toNatClampNeg, inp a.toNatClampNeg) :: s
  else if k = 2 then (1, fun _ => vl_el L a.toNatClampNeg) :: s
  else if k < 9 then (match s with | m :: n :: s => (1, fun _ => vl_cm k (n.2 0) (m.2 0)) :: s | s => s)
  else if k = 9 then (match s with | k3 :: m :: n :: s => (1, fun _ => if n.2 0 = 0 then k3.2 0 else m.2 0) :: s | s => s)
  else if k = 10 then (match s with | r :: s => (1, fun _ => nI r.1) :: s | s => s)
  else if k = 11 then (match s with | r :: s => (1, fun _ => vl_sm r.2 r.1) :: s | s => s)
  else if k = 12 then (match s with | r :: s => (1, fun _ => vl_mx r.2 r.1) :: s | s => s)
  else if k = 13 then (match s with | i :: r :: s => (1, fun _ => vl_at (i.2 0) r) :: s | s => s)
  else if k = 14 then (match s with | c :: s => (vl_cl (c.2 0), fun p => nI p) :: s | s => s)
  else if k = 15 then (match s with | q :: r :: s => (if r.1 + q.1 < 8 then r.1 + q.1 else 8, fun p => if p < r.1 then r.2 p else q.2 (p - r.1)) :: s | s => s)
  else if k = 16 then (match s with | r :: s => (r.1, fun p => r.2 (r.1 - 1 - p)) :: s | s => s)
  else if k = 17 then (match s with | r :: s => (r.1, fun p => vl_sm r.2 (p + 1)) :: s | s => s)
  else (match s with | r :: s => (r.1, vl_so r.1 r.2) :: s | s => s)
def vl_TY : List Nat → List vl_rw → Prop
  | [], [] => True
  | x :: S, r :: s => r.1 ≤ 8 ∧ (x = 1 → r.1 = 1) ∧ vl_TY S s
  | _, _ => False
theorem vl_TYn {s : List vl_rw} (h : vl_TY [] s) : s = [] := by
  cases s with
  | nil => rfl
  | cons r s => exact h.elim
theorem vl_TYc {x : Nat} {S : List Nat} {s : List vl_rw} (h : vl_TY (x :: S) s) : ∃ r s', s = r :: s' ∧ r.1 ≤ 8 ∧ (x = 1 → r.1 = 1) ∧ vl_TY S s' := by
  cases s with
  | nil => exact h.elim
  | cons r s => exact ⟨r, s, rfl, h⟩
theorem vl_TYl : ∀ {S : List Nat} {s : List vl_rw}, vl_TY S s → s.length = S.length := by
  intro S
  induction S with
  | nil => intro s h; rw [vl_TYn h]; rfl
  | cons x S ih =>
    intro s h
    obtain ⟨r, s', rfl, -, -, h3⟩ := vl_TYc h
    rw [List.length_cons, List.length_cons, ih h3]
theorem vl_cl8 (c : Int32) : vl_cl c ≤ 8 := by
  unfold vl_cl
  split
  · omega
  · rename_i h
    split
    · omega
    · rename_i h2
      obtain ⟨j, hj, rfl⟩ := nI_of h
      rw [nI_clamp hj]
      have : ¬ 8 < j := fun z => h2 (nI_lt (a := 8) z hj)
      omega
theorem vl_ap_ty {zs : Nat → Nat} {inp : Nat → Nat → Int32} {L : List vl_ln} {a : Int32} {k : Nat} {R : List Nat} {s : List vl_rw}
    (hk : k < 19) (hz : k = 1 → zs a.toNatClampNeg ≤ 8) (h : vl_TY (vl_nd k ++ R) s) : vl_TY (vl_gr k :: R) (vl_ap zs inp L a k s) := by
  have c : k = 0 ∨ k = 1 ∨ k = 2 ∨ (3 ≤ k ∧ k < 9) ∨ k = 9 ∨ k = 10 ∨ k = 11 ∨ k = 12 ∨ k = 13 ∨ k = 14 ∨ k = 15 ∨ k = 16 ∨ k = 17 ∨ k = 18 := by omega
  rcases c with rfl | rfl | rfl | ⟨c1, c2⟩ | rfl | rfl | rfl | rfl | rfl | rfl | rfl | rfl | rfl | rfl
  · exact ⟨show 1 ≤ 8 by decide, fun _ => rfl, h⟩
  · exact ⟨hz rfl, (fun z => absurd z (by decide)), h⟩
  · exact ⟨show 1 ≤ 8 by decide, fun _ => rfl, h⟩
  · have e : vl_nd k = [1, 1] := by unfold vl_nd; rw [if_neg (by omega), if_pos c2]
    rw [e] at h
    obtain ⟨m, s, rfl, -, -, h⟩ := vl_TYc h
    obtain ⟨n, s, rfl, -, -, h⟩ := vl_TYc h
    unfold vl_ap
    rw [if_neg (by omega), if_neg (by omega), if_neg (by omega), if_pos c2]
    exact ⟨by show 1 ≤ 8; omega, fun _ => rfl, h⟩
  · obtain ⟨m, s, rfl, -, -, h⟩ := vl_TYc h
    obtain ⟨n, s, rfl, -, -, h⟩ := vl_TYc h
    obtain ⟨i, s, rfl, -, -, h⟩ := vl_TYc h
    exact ⟨show 1 ≤ 8 by decide, fun _ => rfl, h⟩
  · obtain ⟨m, s, rfl, -, -, h⟩ := vl_TYc h
    exact ⟨show 1 ≤ 8 by decide, fun _ => rfl, h⟩
  · obtain ⟨m, s, rfl, -, -, h⟩ := vl_TYc h
    exact ⟨show 1 ≤ 8 by decide, fun _ => rfl, h⟩
  · obtain ⟨m, s, rfl, -, -, h⟩ := vl_TYc h
    exact ⟨show 1 ≤ 8 by decide, fun _ => rfl, h⟩
  · obtain ⟨m, s, rfl, -, -, h⟩ := vl_TYc h
    obtain ⟨n, s, rfl, -, -, h⟩ := vl_TYc h
    exact ⟨show 1 ≤ 8 by decide, fun _ => rfl, h⟩
  · obtain ⟨m, s, rfl, -, -, h⟩ := vl_TYc h
    exact ⟨vl_cl8 _, (fun z => absurd z (by decide)), h⟩
  · obtain ⟨m, s, rfl, -, -, h⟩ := vl_TYc h
    obtain ⟨n, s, rfl, -, -, h⟩ := vl_TYc h
    refine ⟨?_, (fun z => absurd z (by decide)), h⟩
    show (if n.1 + m.1 < 8 then n.1 + m.1 else 8) ≤ 8
    split <;> omega
  · obtain ⟨m, s, rfl, h8, -, h⟩ := vl_TYc h
    exact ⟨h8, (fun z => absurd z (by decide)), h⟩
  · obtain ⟨m, s, rfl, h8, -, h⟩ := vl_TYc h
    exact ⟨h8, (fun z => absurd z (by decide)), h⟩
  · obtain ⟨m, s, rfl, h8, -, h⟩ := vl_TYc h
    exact ⟨h8, (fun z => absurd z (by decide)), h⟩

/-- the lanes' invariant: relative to the blocks unended, the sorts on the stack and the next token -/
def vl_LI (K : Nat → Nat) (n : Nat) : List vl_ln → List Nat → List Nat → Nat → Prop
  | [], F, _, _ => F = []
  | (b, m, _, e, c, _) :: L, F, S, t => ∃ Sb Fb Y, vl_st K (b + 1) = (Sb, Sb.length :: Fb) ∧ F = Sb.length :: Fb ∧ S = Y ++ Sb ∧
      vl_E K n t 1 = vl_E K n (b + 1) 1 ∧ (b < n ∧ (K b = 19 ∨ K b = 20) ∧ m ≤ 8 ∧ e < m ∧ c ≤ e) ∧ vl_LI K n L Fb Sb (vl_E K n (b + 1) 1)
theorem vl_LI_len {K : Nat → Nat} {n : Nat} : ∀ {L : List vl_ln} {F S : List Nat} {t : Nat}, vl_LI K n L F S t → L.length = F.length := by
  intro L
  induction L with
  | nil => intro F S t h; have h' : F = [] := h; rw [h']; rfl
  | cons l L ih =>
    intro F S t h
    obtain ⟨b, m, f, e, c, g⟩ := l
    obtain ⟨Sb, Fb, Y, -, rfl, -, -, -, h2⟩ := h
    rw [List.length_cons, List.length_cons, ih h2]
theorem vl_LI_mv {K : Nat → Nat} {n : Nat} {L : List vl_ln} {F S S' : List Nat} {t t' : Nat} (h : vl_LI K n L F S t) (hE : L ≠ [] → vl_E K n t' 1 = vl_E K n t 1)
    (hS : ∀ Sb Y, S = Y ++ Sb → vl_base F = Sb.length → ∃ Y', S' = Y' ++ Sb) : vl_LI K n L F S' t' := by
  cases L with
  | nil => exact h
  | cons l L =>
    obtain ⟨b, m, f, e, c, g⟩ := l
    obtain ⟨Sb, Fb, Y, h1, rfl, h3, h4, h5, h6⟩ := h
    obtain ⟨Y', e'⟩ := hS Sb Y h3 rfl
    exact ⟨Sb, Fb, Y', h1, rfl, e', (hE (by intro z; cases z)).trans h4, h5, h6⟩
/-- taking k off and putting x on stays above the innermost block's floor -/
theorem vl_suf {S R : List Nat} {D : List Nat} {F : List Nat} (e : S = D ++ R) (hb : vl_base F ≤ R.length) : ∀ Sb Y, S = Y ++ Sb → vl_base F = Sb.length → ∃ Y', R = Y' ++ Sb := by
  intro Sb Y e2 h
  have hl : D.length ≤ Y.length := by
    have := congrArg List.length (e.symm.trans e2)
    rw [List.length_append, List.length_append] at this
    omega
  have e3 := congrArg (List.drop D.length) (e.symm.trans e2)
  rw [List.drop_left, List.drop_append_of_le_length hl] at e3
  exact ⟨_, e3⟩

def vl_w : Nat → Nat
  | 0 => 8
  | _ => 1
def vl_W : List vl_ln → Nat
  | [] => 64
  | _ :: L => vl_w L.length
def vl_B (K : Nat → Nat) (n : Nat) : List vl_ln → Nat
  | [] => n
  | l :: _ => vl_E K n (l.1 + 1) 1
def vl_pc (K : Nat → Nat) (n : Nat) : List vl_ln → Nat
  | [] => 0
  | (b, m, _, e, _, _) :: L => (vl_pc K n L + vl_W L * (vl_B K n L - vl_E K n (b + 1) 1)) + (m - 1 - e) * (vl_w L.length * (vl_E K n (b + 1) 1 - (b + 1)))
/-- the steps left, at most -/
def vl_pt (K : Nat → Nat) (n : Nat) (L : List vl_ln) (t : Nat) : Nat := vl_pc K n L + vl_W L * (vl_B K n L - t)
theorem vl_pt_mv {K : Nat → Nat} {n : Nat} {L : List vl_ln} {t t' : Nat} (h : t ≤ t') (hB : t' ≤ vl_B K n L) : vl_pt K n L t = vl_pt K n L t' + vl_W L * (t' - t) := by
  unfold vl_pt
  rw [show vl_B K n L - t = (vl_B K n L - t') + (t' - t) by omega, Nat.mul_add]
  omega
theorem vl_W1 (L : List vl_ln) : 1 ≤ vl_W L := by
  cases L with
  | nil => decide
  | cons l L =>
    show 1 ≤ vl_w L.length
    cases L.length with
    | zero => decide
    | succ _ => exact Nat.le_refl 1
theorem vl_pt_lt {K : Nat → Nat} {n : Nat} {L : List vl_ln} {t t' : Nat} (h : t < t') (hB : t' ≤ vl_B K n L) : vl_pt K n L t' < vl_pt K n L t := by
  rw [vl_pt_mv (t := t) (t' := t') (by omega) hB]
  have : 1 * 1 ≤ vl_W L * (t' - t) := Nat.mul_le_mul (vl_W1 L) (by omega)
  omega
theorem vl_pt_push {K : Nat → Nat} {n : Nat} {L : List vl_ln} {t m : Nat} {f g : Nat → Int32} (hL : L.length < 2) (hm : m ≤ 8) (hm1 : 1 ≤ m) (h1 : t + 1 ≤ vl_E K n (t + 1) 1) (hB : vl_E K n (t + 1) 1 ≤ vl_B K n L) :
    vl_pt K n ((t, m, f, 0, 0, g) :: L) (t + 1) < vl_pt K n L t := by
  rw [vl_pt_mv (L := L) (t := t) (by omega) hB]
  show vl_pt K n L (vl_E K n (t + 1) 1) + (m - 1 - 0) * (vl_w L.length * (vl_E K n (t + 1) 1 - (t + 1))) + vl_w L.length * (vl_E K n (t + 1) 1 - (t + 1)) < vl_pt K n L (vl_E K n (t + 1) 1) + vl_W L * (vl_E K n (t + 1) 1 - t)
  generalize hq : vl_E K n (t + 1) 1 - (t + 1) = q
  have h2 : vl_E K n (t + 1) 1 - t = q + 1 := by omega
  rw [h2]
  have h3 : vl_W L = 8 * vl_w L.length := by
    cases L with
    | nil => rfl
    | cons l L =>
      cases L with
      | nil => rfl
      | cons l L => exact absurd hL (by rw [List.length_cons, List.length_cons]; omega)
  have hw : 1 ≤ vl_w L.length := by
    cases L.length with
    | zero => decide
    | succ _ => exact Nat.le_refl 1
  rw [h3]
  generalize vl_w L.length = w at hw ⊢
  have h4 : (m - 1 - 0) * (w * q) + w * q ≤ 8 * (w * q) := by
    have : (m - 1 - 0) * (w * q) ≤ 7 * (w * q) := Nat.mul_le_mul (by omega) (Nat.le_refl _)
    omega
  have h5 : 8 * w * (q + 1) = 8 * (w * q) + 8 * w := by rw [Nat.mul_add, Nat.mul_one, Nat.mul_assoc]
  omega
theorem vl_pt_next {K : Nat → Nat} {n : Nat} {L : List vl_ln} {t b m e c c' : Nat} {f g g' : Nat → Int32} (he : e + 1 < m) (ht : vl_E K n (b + 1) 1 = t + 1) :
    vl_pt K n ((b, m, f, e + 1, c', g') :: L) (b + 1) < vl_pt K n ((b, m, f, e, c, g) :: L) t := by
  show (vl_pc K n L + vl_W L * (vl_B K n L - vl_E K n (b + 1) 1)) + (m - 1 - (e + 1)) * (vl_w L.length * (vl_E K n (b + 1) 1 - (b + 1))) + vl_w L.length * (vl_E K n (b + 1) 1 - (b + 1)) < (vl_pc K n L + vl_W L * (vl_B K n L - vl_E K n (b + 1) 1)) + (m - 1 - e) * (vl_w L.length * (vl_E K n (b + 1) 1 - (b + 1))) + vl_w L.length * (vl_E K n (b + 1) 1 - t)
  rw [ht, show m - 1 - e = (m - 1 - (e + 1)) + 1 by omega, Nat.succ_mul, show t + 1 - t = 1 by omega]
  have hw : 1 ≤ vl_w L.length := by
    cases L.length with
    | zero => decide
    | succ _ => exact Nat.le_refl 1
  omega
theorem vl_pt_pop {K : Nat → Nat} {n : Nat} {L : List vl_ln} {t b m e c : Nat} {f g : Nat → Int32} (ht : vl_E K n (b + 1) 1 = t + 1) :
    vl_pt K n L (t + 1) < vl_pt K n ((b, m, f, e, c, g) :: L) t := by
  show vl_pc K n L + vl_W L * (vl_B K n L - (t + 1)) < (vl_pc K n L + vl_W L * (vl_B K n L - vl_E K n (b + 1) 1)) + (m - 1 - e) * (vl_w L.length * (vl_E K n (b + 1) 1 - (b + 1))) + vl_w L.length * (vl_E K n (b + 1) 1 - t)
  rw [ht, show t + 1 - t = 1 by omega]
  have hw : 1 ≤ vl_w L.length := by
    cases L.length with
    | zero => decide
    | succ _ => exact Nat.le_refl 1
  omega
end
section
/-! part 4: one step of the pure machine, its invariant, its end -/
def vl_mk (K : Nat → Nat) (b c : Nat) (f g : Nat → Int32) (e : Nat) (v : Int32) : vl_rw :=
  if K b = 20 ∧ v = 0 then (c, g) else (c + 1, upd g c (if K b = 20 then f e else v))
theorem vl_mk1 (K : Nat → Nat) (b c : Nat) (f g : Nat → Int32) (e : Nat) (v : Int32) : (vl_mk K b c f g e v).1 ≤ c + 1 := by
  unfold vl_mk
  split
  · show c ≤ c + 1; omega
  · exact Nat.le_refl _
abbrev vl_D : Type := Nat × List vl_rw × List vl_ln
noncomputable def vl_mv (K : Nat → Nat) (A : Nat → Int32) (n : Nat) (zs : Nat → Nat) (inp : Nat → Nat → Int32) (t : Nat) (s : List vl_rw) (L : List vl_ln) : vl_D :=
  if K t = 19 ∨ K t = 20 then
    (match s with
      | r :: s' => if r.1 = 0 then (vl_E K n (t + 1) 1, r :: s', L) else (t + 1, s', (t, r.1, r.2, 0, 0, fun _ => 0) :: L)
      | [] => (t + 1, [], L))
  else if K t = 21 then
    (match s, L with
      | v :: s', (b, m, f, e, c, g) :: L' =>
        if e + 1 < m then (b + 1, s', (b, m, f, e + 1, (vl_mk K b c f g e (v.2 0)).1, (vl_mk K b c f g e (v.2 0)).2) :: L')
        else (t + 1, vl_mk K b c f g e (v.2 0) :: s', L')
      | s, L => (t + 1, s, L))
  else (t + 1, vl_ap zs inp L (A t) (K t) s, L)
def vl_DI (K : Nat → Nat) (n : Nat) (D : vl_D) : Prop :=
  D.1 ≤ n ∧ vl_TY (vl_st K D.1).1 D.2.1 ∧ vl_LI K n D.2.2 (vl_st K D.1).2 (vl_st K D.1).1 D.1
theorem vl_B_E {K : Nat → Nat} {n : Nat} {L : List vl_ln} {F S : List Nat} {t : Nat} (h : vl_LI K n L F S t) (hL : L ≠ []) : vl_B K n L = vl_E K n t 1 := by
  cases L with
  | nil => exact absurd rfl hL
  | cons l L =>
    obtain ⟨b, m, f, e, c, g⟩ := l
    obtain ⟨Sb, Fb, Y, -, -, -, h4, -, -⟩ := h
    exact h4.symm
theorem vl_B_gt {K : Nat → Nat} {n : Nat} {L : List vl_ln} {F S : List Nat} {t : Nat} (h : vl_LI K n L F S t) (ht : t < n) : t + 1 ≤ vl_B K n L := by
  by_cases hL : L = []
  · subst hL; exact ht
  · rw [vl_B_E h hL]
    exact vl_E_gt 0 ht
theorem vl_st_s {K : Nat → Nat} {t : Nat} : vl_st K (t + 1) = vl_ss (K t) (vl_st K t) := rfl

theorem vl_k19 {k : Nat} (h : k < 22) (k1 : ¬ (k = 19 ∨ k = 20)) (k2 : ¬ k = 21) : k < 19 := by omega
theorem vl_mv_s {K : Nat → Nat} {A : Nat → Int32} {n : Nat} {zs : Nat → Nat} {inp : Nat → Nat → Int32} (h : vl_PG K A n) (hz : ∀ i, i < 3 → zs i ≤ 8)
    {t : Nat} {s : List vl_rw} {L : List vl_ln} (ht : t < n) (hD : vl_DI K n (t, s, L)) (k1 : ¬ (K t = 19 ∨ K t = 20)) (k2 : ¬ K t = 21) :
    vl_DI K n (t + 1, vl_ap zs inp L (A t) (K t) s, L) ∧ vl_pt K n L (t + 1) < vl_pt K n L t := by
  have h1 : vl_TY (vl_st K t).1 s := hD.2.1
  have h2 : vl_LI K n L (vl_st K t).2 (vl_st K t).1 t := hD.2.2
  clear hD
  obtain ⟨o1, o2, -, o4, -⟩ := h t ht
  have hE : vl_E K n (t + 1) 1 = vl_E K n t 1 := by rw [vl_E_s 0 ht, if_neg k1, if_neg k2]
  have hB := vl_B_gt h2 ht
  refine ⟨?_, vl_pt_lt (by omega) hB⟩
  have e0 : vl_st K (t + 1) = vl_ss (K t) (vl_st K t) := rfl
  rcases hs : vl_st K t with ⟨S, F⟩
  rw [hs] at h1 h2 o2 e0
  change vl_TY S s at h1
  change vl_LI K n L F S t at h2
  obtain ⟨R, e, hb, -, g2, -⟩ := vl_ss_ok o2
  rw [g2 k1, if_neg k2] at e0
  refine ⟨by show t + 1 ≤ n; omega, ?_, ?_⟩
  · show vl_TY (vl_st K (t + 1)).1 _
    rw [e0]
    refine vl_ap_ty (vl_k19 o1 k1 k2) ?_ (by rw [← e]; exact h1)
    intro k3
    obtain ⟨i, hi, e4⟩ := o4 k3
    rw [e4, nI_clamp (by omega)]
    exact hz i hi
  · show vl_LI K n L (vl_st K (t + 1)).2 (vl_st K (t + 1)).1 (t + 1)
    rw [e0]
    refine vl_LI_mv h2 (fun _ => hE) ?_
    intro Sb Y e5 e6
    obtain ⟨Y', e7⟩ := vl_suf e hb Sb Y e5 e6
    exact ⟨vl_gr (K t) :: Y', by rw [e7]; rfl⟩
theorem vl_mv_b {K : Nat → Nat} {A : Nat → Int32} {n : Nat} (h : vl_PG K A n) (hn : (vl_st K n).2 = [])
    {t : Nat} {s : List vl_rw} {L : List vl_ln} (ht : t < n) (hD : vl_DI K n (t, s, L)) (k1 : K t = 19 ∨ K t = 20) :
    ∃ r s', s = r :: s' ∧ r.1 ≤ 8 ∧ L.length < 2 ∧
    (r.1 = 0 → vl_DI K n (vl_E K n (t + 1) 1, r :: s', L) ∧ vl_pt K n L (vl_E K n (t + 1) 1) < vl_pt K n L t) ∧
    (¬ r.1 = 0 → vl_DI K n (t + 1, s', (t, r.1, r.2, 0, 0, fun _ => 0) :: L) ∧ vl_pt K n ((t, r.1, r.2, 0, 0, fun _ => 0) :: L) (t + 1) < vl_pt K n L t) := by
  have h1 : vl_TY (vl_st K t).1 s := hD.2.1
  have h2 : vl_LI K n L (vl_st K t).2 (vl_st K t).1 t := hD.2.2
  clear hD
  obtain ⟨o1, o2, ⟨-, o3⟩, -, -⟩ := h t ht
  have hE : vl_E K n (vl_E K n (t + 1) 1) 1 = vl_E K n t 1 := by
    rw [← vl_E_add 1 1 (by omega), vl_E_s 0 ht, if_pos k1]
  have hE1 := vl_E_in (K := K) (n := n) (t := t + 1) 1 (by omega)
  have hB : vl_E K n (t + 1) 1 ≤ vl_B K n L := by
    by_cases hL : L = []
    · subst hL; exact hE1.2
    · rw [vl_B_E h2 hL, ← hE]
      exact (vl_E_in 1 hE1.2).1
  have e0 : vl_st K (t + 1) = vl_ss (K t) (vl_st K t) := rfl
  rcases hs : vl_st K t with ⟨S, F⟩
  rw [hs] at h1 h2 o2 o3 e0
  change vl_TY S s at h1
  change vl_LI K n L F S t at h2
  have o3' : F.length < 2 := o3 k1
  have hL := vl_LI_len h2
  have hL2 : L.length < 2 := by
    have : L.length = F.length := hL
    omega
  obtain ⟨R, e, hb, g1, -, -⟩ := vl_ss_ok o2
  have e1 : vl_nd (K t) = [2] := by rcases k1 with k1 | k1 <;> rw [k1] <;> rfl
  rw [e1] at e
  rw [g1 k1] at e0
  change S = 2 :: R at e
  subst e
  obtain ⟨r, s', rfl, h3, -, h4⟩ := vl_TYc h1
  refine ⟨r, s', rfl, h3, hL2, ?_, ?_⟩
  · intro _
    refine ⟨⟨hE1.2, ?_, ?_⟩, vl_pt_lt (by omega) hB⟩
    · show vl_TY (vl_st K (vl_E K n (t + 1) 1)).1 _
      rw [show vl_st K (vl_E K n (t + 1) 1) = (2 :: R, F) from vl_blk h hn R F (n - (t + 1)) (t + 1) 1 [] [] (by omega) e0 rfl (by intro x hx; cases hx)]
      exact ⟨h3, (fun z => absurd z (by decide)), h4⟩
    · show vl_LI K n L (vl_st K (vl_E K n (t + 1) 1)).2 (vl_st K (vl_E K n (t + 1) 1)).1 (vl_E K n (t + 1) 1)
      rw [show vl_st K (vl_E K n (t + 1) 1) = (2 :: R, F) from vl_blk h hn R F (n - (t + 1)) (t + 1) 1 [] [] (by omega) e0 rfl (by intro x hx; cases hx)]
      exact vl_LI_mv h2 (fun _ => hE) (fun Sb Y e5 _ => ⟨Y, e5⟩)
  · intro h0
    refine ⟨⟨by show t + 1 ≤ n; omega, ?_, ?_⟩, vl_pt_push hL2 h3 (by omega) hE1.1 hB⟩
    · show vl_TY (vl_st K (t + 1)).1 s'
      rw [e0]
      exact h4
    · show vl_LI K n ((t, r.1, r.2, 0, 0, fun _ => 0) :: L) (vl_st K (t + 1)).2 (vl_st K (t + 1)).1 (t + 1)
      rw [e0]
      exact ⟨R, F, [], e0, rfl, rfl, rfl, ⟨ht, k1, h3, by omega, Nat.le_refl _⟩, vl_LI_mv h2 (fun _ => hE) (vl_suf (D := [2]) rfl hb)⟩
theorem vl_mv_e {K : Nat → Nat} {A : Nat → Int32} {n : Nat} (h : vl_PG K A n)
    {t : Nat} {s : List vl_rw} {L : List vl_ln} (ht : t < n) (hD : vl_DI K n (t, s, L)) (k1 : K t = 21) :
    ∃ v s' b m f e c g L', s = v :: s' ∧ v.1 = 1 ∧ L = (b, m, f, e, c, g) :: L' ∧ (b < t ∧ (K b = 19 ∨ K b = 20) ∧ m ≤ 8 ∧ e < m ∧ c ≤ e) ∧
    (e + 1 < m → vl_DI K n (b + 1, s', (b, m, f, e + 1, (vl_mk K b c f g e (v.2 0)).1, (vl_mk K b c f g e (v.2 0)).2) :: L') ∧
      vl_pt K n ((b, m, f, e + 1, (vl_mk K b c f g e (v.2 0)).1, (vl_mk K b c f g e (v.2 0)).2) :: L') (b + 1) < vl_pt K n L t) ∧
    (¬ e + 1 < m → vl_DI K n (t + 1, vl_mk K b c f g e (v.2 0) :: s', L') ∧ vl_pt K n L' (t + 1) < vl_pt K n L t) := by
  have h1 : vl_TY (vl_st K t).1 s := hD.2.1
  have h2 : vl_LI K n L (vl_st K t).2 (vl_st K t).1 t := hD.2.2
  clear hD
  obtain ⟨o1, o2, -, -, -⟩ := h t ht
  have hE : vl_E K n t 1 = t + 1 := by
    rw [vl_E_s 0 ht, if_neg (by omega), if_pos k1, vl_E0]
  have e0 : vl_st K (t + 1) = vl_ss (K t) (vl_st K t) := rfl
  rcases hs : vl_st K t with ⟨S, F⟩
  rw [hs] at h1 h2 o2 e0
  change vl_TY S s at h1
  change vl_LI K n L F S t at h2
  obtain ⟨R, e1, hb, -, g2, g3⟩ := vl_ss_ok o2
  obtain ⟨g4, g5⟩ := g3 k1
  rw [g2 (by omega), if_pos k1] at e0
  rw [show vl_nd (K t) = [1] by rw [k1]; rfl] at e1
  change S = 1 :: R at e1
  subst e1
  obtain ⟨v, s', rfl, -, h3, h4⟩ := vl_TYc h1
  cases L with
  | nil => exact absurd h2 g4
  | cons l L =>
    obtain ⟨b, m, f, e, c, g⟩ := l
    obtain ⟨Sb, Fb, Y, q1, q2, q3, q4, ⟨q5, q6, q7, q8, q9⟩, q10⟩ := h2
    subst q2
    change R.length = Sb.length at g5
    have hR : R = Sb := by
      have := congrArg List.length q3
      rw [List.length_cons, List.length_append] at this
      match Y, q3, this with
      | [], q3, this => rw [List.length_nil] at this; omega
      | [y], q3, this => exact (List.cons.inj q3).2
      | y :: y2 :: Y, q3, this => rw [List.length_cons, List.length_cons] at this; omega
    subst hR
    replace q4 : vl_E K n (b + 1) 1 = t + 1 := q4.symm.trans hE
    have hbt : b < t := by
      have hin := vl_E_in (K := K) (n := n) (t := b + 1) 1 (by omega)
      rw [q4] at hin
      by_cases hb1 : b + 1 < n
      · have := vl_E_gt (K := K) (n := n) (t := b + 1) 0 hb1
        rw [q4] at this
        omega
      · have hbt2 : b = t := by omega
        subst hbt2
        omega
    refine ⟨v, s', b, m, f, e, c, g, L, rfl, h3 rfl, rfl, ⟨hbt, q6, q7, q8, q9⟩, ?_, ?_⟩
    · intro he
      refine ⟨⟨by show b + 1 ≤ n; omega, ?_, ?_⟩, vl_pt_next he q4⟩
      · show vl_TY (vl_st K (b + 1)).1 s'
        rw [q1]
        exact h4
      · show vl_LI K n _ (vl_st K (b + 1)).2 (vl_st K (b + 1)).1 (b + 1)
        rw [q1]
        have := vl_mk1 K b c f g e (v.2 0)
        exact ⟨R, Fb, [], q1, rfl, rfl, rfl, ⟨q5, q6, q7, he, by omega⟩, q10⟩
    · intro he
      refine ⟨⟨by show t + 1 ≤ n; omega, ?_, ?_⟩, vl_pt_pop q4⟩
      · show vl_TY (vl_st K (t + 1)).1 _
        rw [e0, k1]
        have := vl_mk1 K b c f g e (v.2 0)
        exact ⟨by omega, (fun z => absurd z (by decide)), h4⟩
      · show vl_LI K n L (vl_st K (t + 1)).2 (vl_st K (t + 1)).1 (t + 1)
        rw [e0]
        rw [q4] at q10
        exact vl_LI_mv q10 (fun _ => rfl) (fun Sb Y e5 _ => ⟨vl_gr (K t) :: Y, by show _ :: R = _; rw [e5]; rfl⟩)
theorem vl_mv_ok {K : Nat → Nat} {A : Nat → Int32} {n : Nat} {zs : Nat → Nat} {inp : Nat → Nat → Int32} (h : vl_PG K A n) (hn : (vl_st K n).2 = []) (hz : ∀ i, i < 3 → zs i ≤ 8)
    {t : Nat} {s : List vl_rw} {L : List vl_ln} (ht : t < n) (hD : vl_DI K n (t, s, L)) :
    vl_DI K n (vl_mv K A n zs inp t s L) ∧ vl_pt K n (vl_mv K A n zs inp t s L).2.2 (vl_mv K A n zs inp t s L).1 < vl_pt K n L t := by
  by_cases k1 : K t = 19 ∨ K t = 20
  · obtain ⟨r, s', rfl, -, -, h1, h2⟩ := vl_mv_b h hn ht hD k1
    by_cases h0 : r.1 = 0
    · have e : vl_mv K A n zs inp t (r :: s') L = (vl_E K n (t + 1) 1, r :: s', L) := by
        unfold vl_mv
        rw [if_pos k1]
        exact if_pos h0
      rw [e]; exact h1 h0
    · have e : vl_mv K A n zs inp t (r :: s') L = (t + 1, s', (t, r.1, r.2, 0, 0, fun _ => 0) :: L) := by
        unfold vl_mv
        rw [if_pos k1]
        exact if_neg h0
      rw [e]; exact h2 h0
  · by_cases k2 : K t = 21
    · obtain ⟨v, s', b, m, f, e, c, g, L', rfl, -, rfl, -, h1, h2⟩ := vl_mv_e h ht hD k2
      by_cases h0 : e + 1 < m
      · have e : vl_mv K A n zs inp t (v :: s') ((b, m, f, e, c, g) :: L') = (b + 1, s', (b, m, f, e + 1, (vl_mk K b c f g e (v.2 0)).1, (vl_mk K b c f g e (v.2 0)).2) :: L') := by
          unfold vl_mv
          rw [if_neg k1, if_pos k2]
          exact if_pos h0
        rw [e]; exact h1 h0
      · have e : vl_mv K A n zs inp t (v :: s') ((b, m, f, e, c, g) :: L') = (t + 1, vl_mk K b c f g e (v.2 0) :: s', L') := by
          unfold vl_mv
          rw [if_neg k1, if_pos k2]
          exact if_neg h0
        rw [e]; exact h2 h0
    · have e : vl_mv K A n zs inp t s L = (t + 1, vl_ap zs inp L (A t) (K t) s, L) := by
        unfold vl_mv
        rw [if_neg k1, if_neg k2]
      rw [e]
      exact vl_mv_s h hz ht hD k1 k2
noncomputable def vl_run (K : Nat → Nat) (A : Nat → Int32) (n : Nat) (zs : Nat → Nat) (inp : Nat → Nat → Int32) : Nat → vl_D → vl_D
  | 0, D => D
  | f + 1, D => if D.1 < n then vl_run K A n zs inp f (vl_mv K A n zs inp D.1 D.2.1 D.2.2) else D
theorem vl_run_ok {K : Nat → Nat} {A : Nat → Int32} {n : Nat} {zs : Nat → Nat} {inp : Nat → Nat → Int32} (h : vl_PG K A n) (hn : (vl_st K n).2 = []) (hz : ∀ i, i < 3 → zs i ≤ 8) :
    ∀ f D, vl_DI K n D → vl_pt K n D.2.2 D.1 ≤ f → vl_DI K n (vl_run K A n zs inp f D) ∧ (vl_run K A n zs inp f D).1 = n := by
  intro f
  induction f with
  | zero =>
    intro D hD hp
    refine ⟨hD, ?_⟩
    obtain ⟨t, s, L⟩ := D
    have hp' : vl_pt K n L t ≤ 0 := hp
    have hD1 : t ≤ n := hD.1
    by_cases ht : t < n
    · have h1 := (vl_mv_ok (zs := zs) (inp := inp) h hn hz ht hD).2
      omega
    · show t = n
      omega
  | succ f ih =>
    intro D hD hp
    obtain ⟨t, s, L⟩ := D
    have hp' : vl_pt K n L t ≤ f + 1 := hp
    have hD1 : t ≤ n := hD.1
    by_cases ht : t < n
    · have h1 := vl_mv_ok (zs := zs) (inp := inp) h hn hz ht hD
      have e : vl_run K A n zs inp (f + 1) (t, s, L) = vl_run K A n zs inp f (vl_mv K A n zs inp t s L) := if_pos ht
      rw [e]
      exact ih _ h1.1 (by omega)
    · have e : vl_run K A n zs inp (f + 1) (t, s, L) = (t, s, L) := if_neg ht
      rw [e]
      exact ⟨hD, by show t = n; omega⟩
/-- a whole program's result: one row -/
theorem vl_run_end {K : Nat → Nat} {A : Nat → Int32} {n : Nat} {zs : Nat → Nat} {inp : Nat → Nat → Int32} (h : vl_PG K A n) (hn40 : n ≤ 40) (hn : (vl_st K n).2 = []) (h1 : (vl_st K n).1.length = 1) (hz : ∀ i, i < 3 → zs i ≤ 8) :
    ∃ r, r.1 ≤ 8 ∧ vl_run K A n zs inp 2560 (0, [], []) = (n, [r], []) ∧ vl_DI K n (0, [], []) ∧ vl_pt K n [] 0 ≤ 2560 := by
  have hD : vl_DI K n (0, [], []) := ⟨Nat.zero_le _, True.intro, rfl⟩
  have hp : vl_pt K n [] 0 ≤ 2560 := by
    show 0 + 64 * (n - 0) ≤ 2560
    omega
  obtain ⟨⟨-, h2, h3⟩, h4⟩ := vl_run_ok (zs := zs) (inp := inp) h hn hz 2560 (0, [], []) hD hp
  rcases hr : vl_run K A n zs inp 2560 (0, [], []) with ⟨t, s, L⟩
  rw [hr] at h2 h3 h4
  change t = n at h4
  subst h4
  change vl_TY (vl_st K t).1 s at h2
  change vl_LI K t L (vl_st K t).2 (vl_st K t).1 t at h3
  have h5 := vl_LI_len h3
  rw [hn] at h5
  have : L = [] := List.length_eq_zero_iff.mp h5
  subst this
  have h6 := vl_TYl h2
  rw [h1] at h6
  match s, h6, h2 with
  | [r], _, h2 =>
    obtain ⟨r', s', e, h7, -, -⟩ : ∃ r' s', [r] = r' :: s' ∧ r'.1 ≤ 8 ∧ True ∧ True := by
      cases hS : (vl_st K t).1 with
      | nil => rw [hS] at h1; cases h1
      | cons x S =>
        rw [hS] at h2
        obtain ⟨r', s', e, h8, -, -⟩ := vl_TYc h2
        exact ⟨r', s', e, h8, True.intro, True.intro⟩
    replace e := (List.cons.inj e).1
    subst e
    exact ⟨r, h7, rfl, hD, hp⟩
end
section
/-! part 5: rows: exchanges, counts, the two ways to sort -/
def vl_sw (f : Nat → Int32) (i : Nat) : Nat → Int32 := fun j => if j = i then f (i + 1) else if j = i + 1 then f i else f j
theorem vl_sw0 {f : Nat → Int32} {i : Nat} : vl_sw f i i = f (i + 1) := if_pos rfl
theorem vl_sw1 {f : Nat → Int32} {i : Nat} : vl_sw f i (i + 1) = f i := by unfold vl_sw; rw [if_neg (by omega), if_pos rfl]
theorem vl_swn {f : Nat → Int32} {i j : Nat} (h : j ≠ i) (h2 : j ≠ i + 1) : vl_sw f i j = f j := by unfold vl_sw; rw [if_neg h, if_neg h2]
theorem vl_ct_congr {f g : Nat → Int32} {v : Int32} : ∀ {m : Nat}, (∀ p, p < m → f p = g p) → vl_ct f v m = vl_ct g v m := by
  intro m
  induction m with
  | zero => intro _; rfl
  | succ m ih =>
    intro h
    show vl_ct f v m + _ = vl_ct g v m + _
    rw [ih (fun p hp => h p (by omega)), h m (by omega)]
theorem vl_ct_sw {f : Nat → Int32} {v : Int32} {i : Nat} : ∀ {m : Nat}, i + 1 < m → vl_ct (vl_sw f i) v m = vl_ct f v m := by
  intro m
  induction m with
  | zero => intro h; omega
  | succ m ih =>
    intro h
    show vl_ct (vl_sw f i) v m + (if vl_sw f i m = v then 1 else 0) = vl_ct f v m + (if f m = v then 1 else 0)
    by_cases h2 : i + 1 < m
    · rw [ih h2, vl_swn (by omega) (by omega)]
    · have : m = i + 1 := by omega
      subst this
      show (vl_ct (vl_sw f i) v i + (if vl_sw f i i = v then 1 else 0)) + (if vl_sw f i (i + 1) = v then 1 else 0) = (vl_ct f v i + (if f i = v then 1 else 0)) + (if f (i + 1) = v then 1 else 0)
      rw [vl_sw0, vl_sw1, vl_ct_congr (f := vl_sw f i) (g := f) (m := i) (fun p hp => vl_swn (by omega) (by omega))]
      omega
theorem vl_ct_pos {f : Nat → Int32} {v : Int32} : ∀ {m : Nat}, 1 ≤ vl_ct f v m → ∃ p, p < m ∧ f p = v := by
  intro m
  induction m with
  | zero => intro h; exact absurd h (by show ¬ 1 ≤ 0; omega)
  | succ m ih =>
    intro h
    by_cases e : f m = v
    · exact ⟨m, by omega, e⟩
    · have h' : 1 ≤ vl_ct f v m + (if f m = v then 1 else 0) := h
      rw [if_neg e] at h'
      obtain ⟨p, hp, e2⟩ := ih (by omega)
      exact ⟨p, by omega, e2⟩
theorem vl_ct_last {f : Nat → Int32} {m : Nat} : 1 ≤ vl_ct f (f m) (m + 1) := by
  show 1 ≤ vl_ct f (f m) m + (if f m = f m then 1 else 0)
  rw [if_pos rfl]
  omega
theorem vl_As_last {g : Nat → Int32} {m p : Nat} (h : vl_As (m + 1) g) (hp : p < m + 1) : g p ≤ g m := by
  by_cases e : p = m
  · rw [e]; exact Int32.le_refl _
  · exact h p m (by omega) (by omega)
theorem vl_As_uniq {g k : Nat → Int32} : ∀ {m : Nat}, vl_As m g → vl_As m k → (∀ v, vl_ct g v m = vl_ct k v m) → ∀ p, p < m → g p = k p := by
  intro m
  induction m with
  | zero => intro _ _ _ p hp; omega
  | succ m ih =>
    intro hg hk hc p hp
    have e : g m = k m := by
      obtain ⟨q, hq, e1⟩ := vl_ct_pos (f := k) (v := g m) (m := m + 1) (by rw [← hc]; exact vl_ct_last)
      obtain ⟨q', hq', e2⟩ := vl_ct_pos (f := g) (v := k m) (m := m + 1) (by rw [hc]; exact vl_ct_last)
      have a1 := vl_As_last hk hq
      have a2 := vl_As_last hg hq'
      rw [e1] at a1
      rw [e2] at a2
      exact Int32.le_antisymm a1 a2
    by_cases ep : p = m
    · rw [ep]; exact e
    · refine ih (fun a b h1 h2 => hg a b h1 (by omega)) (fun a b h1 h2 => hk a b h1 (by omega)) ?_ p (by omega)
      intro v
      have h1 : vl_ct g v m + (if g m = v then 1 else 0) = vl_ct k v m + (if k m = v then 1 else 0) := hc v
      rw [e] at h1
      omega
theorem vl_so_eq {m : Nat} {f g : Nat → Int32} (h : vl_Sd m f g) : ∀ p, p < m → g p = vl_so m f p := by
  have h2 : vl_Sd m f (vl_so m f) := by
    have hx : ∃ g, vl_Sd m f g := ⟨g, h⟩
    have e : vl_so m f = Classical.choose hx := dif_pos hx
    rw [e]
    exact Classical.choose_spec hx
  exact vl_As_uniq h.1 h2.1 (fun v => (h.2 v).trans (h2.2 v).symm)
/-- insertion: below c all ascend but the one at d, which is no greater than those behind it -/
def vl_IA (c d : Nat) (f : Nat → Int32) : Prop := (∀ p q, p < q → q ≤ c → p ≠ d → q ≠ d → f p ≤ f q) ∧ ∀ q, d < q → q ≤ c → f d ≤ f q
theorem vl_IA0 {c : Nat} {f : Nat → Int32} (h : vl_As c f) : vl_IA c c f :=
  ⟨fun p q h1 h2 _ h4 => h p q h1 (by omega), fun q h1 h2 => by omega⟩
theorem vl_IAs {c d : Nat} {f : Nat → Int32} (h : vl_IA c (d + 1) f) (hd : d + 1 ≤ c) (hg : f (d + 1) ≤ f d) : vl_IA c d (vl_sw f d) := by
  obtain ⟨h1, h2⟩ := h
  refine ⟨?_, ?_⟩
  · intro p q hpq hq hp hq2
    by_cases e1 : p = d + 1
    · subst e1
      rw [vl_sw1, vl_swn (by omega) (by omega)]
      exact h1 d q (by omega) hq (by omega) (by omega)
    · by_cases e2 : q = d + 1
      · subst e2
        rw [vl_sw1, vl_swn hp e1]
        exact h1 p d (by omega) (by omega) (by omega) (by omega)
      · rw [vl_swn hp e1, vl_swn hq2 e2]
        exact h1 p q hpq hq e1 e2
  · intro q h3 h4
    rw [vl_sw0]
    by_cases e2 : q = d + 1
    · subst e2
      rw [vl_sw1]
      exact hg
    · rw [vl_swn (by omega) e2]
      exact h2 q (by omega) h4
theorem vl_IAx {c d : Nat} {f : Nat → Int32} (h : vl_IA c d f) (hx : d = 0 ∨ f (d - 1) ≤ f d) : vl_As (c + 1) f := by
  obtain ⟨h1, h2⟩ := h
  intro p q hpq hq
  by_cases e1 : p = d
  · subst e1; exact h2 q hpq (by omega)
  · by_cases e2 : q = d
    · subst e2
      rcases hx with rfl | hx
      · omega
      · by_cases e3 : p = q - 1
        · subst e3; exact hx
        · exact Int32.le_trans (h1 p (q - 1) (by omega) (by omega) (by omega) (by omega)) hx
    · exact h1 p q hpq (by omega) e1 e2
/-- bubbles: from M on each is no less than all before it -/
def vl_BT (m M : Nat) (f : Nat → Int32) : Prop := ∀ p q, p < q → q < m → M ≤ q → f p ≤ f q
def vl_Bi (m M l : Nat) (f : Nat → Int32) : Prop := vl_BT m M f ∧ (l < M → ∀ p, p < l → f p ≤ f l) ∧ (M ≤ l → vl_BT m (M - 1) f)
theorem vl_Bi0 {m M : Nat} {f : Nat → Int32} (h : vl_BT m M f) : vl_Bi m M 0 f := by
  refine ⟨h, fun _ p hp => by omega, fun hM => ?_⟩
  have : M - 1 = M := by omega
  rw [this]; exact h
theorem vl_Bis {m M l : Nat} {f : Nat → Int32} (h : vl_Bi m M l f) (hl : l + 1 < m) (hg : ¬ f l ≤ f (l + 1)) : vl_Bi m M (l + 1) (vl_sw f l) := by
  obtain ⟨h1, h2, h3⟩ := h
  have hg2 : f (l + 1) ≤ f l := Int32.le_of_lt (Int32.not_le.mp hg)
  have hM : l + 1 < M := by
    by_cases z : l + 1 < M
    · exact z
    · exact absurd (h1 l (l + 1) (by omega) hl (by omega)) hg
  refine ⟨?_, ?_, fun z => by omega⟩
  · intro p q hpq hq hMq
    rw [vl_swn (j := q) (by omega) (by omega)]
    by_cases e1 : p = l
    · subst e1; rw [vl_sw0]; exact h1 _ _ (by omega) hq hMq
    · by_cases e2 : p = l + 1
      · subst e2; rw [vl_sw1]; exact h1 _ _ (by omega) hq hMq
      · rw [vl_swn e1 e2]; exact h1 p q hpq hq hMq
  · intro _ p hp
    rw [vl_sw1]
    by_cases e1 : p = l
    · subst e1; rw [vl_sw0]; exact hg2
    · rw [vl_swn e1 (by omega)]; exact h2 (by omega) p (by omega)
theorem vl_Bin {m M l : Nat} {f : Nat → Int32} (h : vl_Bi m M l f) (hg : f l ≤ f (l + 1)) : vl_Bi m M (l + 1) f := by
  obtain ⟨h1, h2, h3⟩ := h
  refine ⟨h1, ?_, ?_⟩
  · intro hM p hp
    by_cases e1 : p = l
    · subst e1; exact hg
    · exact Int32.le_trans (h2 (by omega) p (by omega)) hg
  · intro hM
    by_cases e : M ≤ l
    · exact h3 e
    · intro p q hpq hq hMq
      by_cases e2 : q = l
      · subst e2; exact h2 (by omega) p hpq
      · exact h1 p q hpq hq (by omega)
theorem vl_Bix {m M l : Nat} {f : Nat → Int32} (h : vl_Bi m M l f) (hl : m ≤ l + 1) (hM : M ≤ m) : vl_BT m (M - 1) f := by
  obtain ⟨h1, h2, h3⟩ := h
  by_cases e : M ≤ l
  · exact h3 e
  · intro p q hpq hq hMq
    by_cases e2 : q = l
    · subst e2; exact h2 (by omega) p hpq
    · exact h1 p q hpq hq (by omega)
theorem vl_BTx {m : Nat} {f : Nat → Int32} (h : vl_BT m 0 f) : vl_As m f := fun p q h1 h2 => h p q h1 h2 (Nat.zero_le _)

/-! the stack and the lanes as they lie in arrays (the component's and the reference's alike) -/
def vl_xS (C Z : Nat → Int32) : List vl_rw → Prop
  | [] => True
  | r :: s => (Z s.length = nI r.1 ∧ r.1 ≤ 8 ∧ ∀ p, p < r.1 → C (8 * s.length + p) = r.2 p) ∧ vl_xS C Z s
theorem vl_xS_congr {C Z C' Z' : Nat → Int32} : ∀ {s : List vl_rw}, vl_xS C Z s → (∀ j, j < 8 * s.length → C' j = C j) → (∀ j, j < s.length → Z' j = Z j) → vl_xS C' Z' s := by
  intro s
  induction s with
  | nil => intro _ _ _; exact True.intro
  | cons r s ih =>
    intro ⟨⟨h1, h2, h3⟩, h4⟩ hC hZ
    rw [List.length_cons] at hC hZ
    refine ⟨⟨?_, h2, ?_⟩, ih h4 (fun j hj => hC j (by omega)) (fun j hj => hZ j (by omega))⟩
    · rw [hZ _ (by omega)]; exact h1
    · intro p hp; rw [hC _ (by omega)]; exact h3 p hp
theorem vl_xS_push {C Z C' Z' : Nat → Int32} {s : List vl_rw} {r : vl_rw} (h : vl_xS C Z s) (h8 : r.1 ≤ 8) (hz : Z' s.length = nI r.1) (hc : ∀ p, p < r.1 → C' (8 * s.length + p) = r.2 p)
    (hC : ∀ j, j < 8 * s.length → C' j = C j) (hZ : ∀ j, j < s.length → Z' j = Z j) : vl_xS C' Z' (r :: s) :=
  ⟨⟨hz, h8, hc⟩, vl_xS_congr h hC hZ⟩
theorem vl_xS_num {C Z : Nat → Int32} {s : List vl_rw} {v : Int32} (h : vl_xS C Z s) : vl_xS (upd C (8 * s.length) v) (upd Z s.length 1) ((1, fun _ => v) :: s) := by
  refine vl_xS_push h (show 1 ≤ 8 by decide) pk_us ?_ (fun j hj => pk_un (by omega)) (fun j hj => pk_un (by omega))
  intro p hp
  have : p = 0 := by have : p < 1 := hp; omega
  subst this
  exact pk_us
theorem vl_xS_len {C Z : Nat → Int32} {s : List vl_rw} {r : vl_rw} (h : vl_xS C Z (r :: s)) : Z s.length = nI r.1 := h.1.1
theorem vl_xS_0 {C Z : Nat → Int32} {s : List vl_rw} {r : vl_rw} (h : vl_xS C Z (r :: s)) (h1 : r.1 = 1) : C (8 * s.length) = r.2 0 := h.1.2.2 0 (by omega)
end
section
/-! part 6: the lanes and the sorts as they lie in arrays -/
def vl_xL (K : Nat → Nat) (lC lS lP lK lT mC mS : Nat → Int32) : List vl_ln → Prop
  | [] => True
  | (b, m, f, e, c, g) :: L => ((m ≤ 8 ∧ e < m ∧ c ≤ e) ∧ lS L.length = nI m ∧ lP L.length = nI e ∧ lK L.length = nI (K b) ∧ lT L.length = nI (b + 1) ∧ mS L.length = nI c ∧
      (∀ p, p < m → lC (8 * L.length + p) = f p) ∧ (∀ p, p < c → mC (8 * L.length + p) = g p)) ∧ vl_xL K lC lS lP lK lT mC mS L
theorem vl_xL_congr {K : Nat → Nat} {lC lS lP lK lT mC mS lC' lS' lP' lK' lT' mC' mS' : Nat → Int32} : ∀ {L : List vl_ln}, vl_xL K lC lS lP lK lT mC mS L →
    (∀ j, j < 8 * L.length → lC' j = lC j) → (∀ j, j < L.length → lS' j = lS j) → (∀ j, j < L.length → lP' j = lP j) → (∀ j, j < L.length → lK' j = lK j) →
    (∀ j, j < L.length → lT' j = lT j) → (∀ j, j < 8 * L.length → mC' j = mC j) → (∀ j, j < L.length → mS' j = mS j) → vl_xL K lC' lS' lP' lK' lT' mC' mS' L := by
  intro L
  induction L with
  | nil => intro _ _ _ _ _ _ _ _; exact True.intro
  | cons l L ih =>
    obtain ⟨b, m, f, e, c, g⟩ := l
    intro ⟨⟨h0, h1, h2, h3, h4, h5, h6, h7⟩, h8⟩ a1 a2 a3 a4 a5 a6 a7
    rw [List.length_cons] at a1 a2 a3 a4 a5 a6 a7
    refine ⟨⟨h0, ?_, ?_, ?_, ?_, ?_, ?_, ?_⟩, ih h8 (fun j hj => a1 j (by omega)) (fun j hj => a2 j (by omega)) (fun j hj => a3 j (by omega)) (fun j hj => a4 j (by omega)) (fun j hj => a5 j (by omega)) (fun j hj => a6 j (by omega)) (fun j hj => a7 j (by omega))⟩
    · rw [a2 _ (by omega)]; exact h1
    · rw [a3 _ (by omega)]; exact h2
    · rw [a4 _ (by omega)]; exact h3
    · rw [a5 _ (by omega)]; exact h4
    · rw [a7 _ (by omega)]; exact h5
    · intro p hp; rw [a1 _ (by omega)]; exact h6 p hp
    · intro p hp; rw [a6 _ (by omega)]; exact h7 p hp
theorem vl_xL_el {K : Nat → Nat} {lC lS lP lK lT mC mS : Nat → Int32} : ∀ {L : List vl_ln} {i : Nat}, vl_xL K lC lS lP lK lT mC mS L → i < L.length → ∃ e, e < 8 ∧ lP i = nI e ∧ lC (8 * i + e) = vl_el L i := by
  intro L
  induction L with
  | nil => intro i _ h; exact absurd h (by show ¬ i < 0; omega)
  | cons l L ih =>
    obtain ⟨b, m, f, e, c, g⟩ := l
    intro i ⟨⟨h0, h1, h2, h3, h4, h5, h6, h7⟩, h8⟩ hi
    rw [List.length_cons] at hi
    by_cases e1 : i = L.length
    · subst e1
      refine ⟨e, by omega, h2, ?_⟩
      rw [h6 e (by omega)]
      exact (if_pos rfl).symm
    · obtain ⟨e', q1, q2, q3⟩ := ih h8 (i := i) (by omega)
      refine ⟨e', q1, q2, q3.trans ?_⟩
      exact (if_neg e1).symm
def vl_yL (rC rM rE rB oS oC : Nat → Int32) : List vl_ln → Prop
  | [] => True
  | (b, m, f, e, c, g) :: L => ((m ≤ 8 ∧ e < m ∧ c ≤ e) ∧ rM L.length = nI m ∧ rE L.length = nI e ∧ rB L.length = nI b ∧ oS L.length = nI c ∧
      (∀ p, p < m → rC (8 * L.length + p) = f p) ∧ (∀ p, p < c → oC (8 * L.length + p) = g p)) ∧ vl_yL rC rM rE rB oS oC L
theorem vl_yL_congr {rC rM rE rB oS oC rC' rM' rE' rB' oS' oC' : Nat → Int32} : ∀ {L : List vl_ln}, vl_yL rC rM rE rB oS oC L →
    (∀ j, j < 8 * L.length → rC' j = rC j) → (∀ j, j < L.length → rM' j = rM j) → (∀ j, j < L.length → rE' j = rE j) → (∀ j, j < L.length → rB' j = rB j) →
    (∀ j, j < L.length → oS' j = oS j) → (∀ j, j < 8 * L.length → oC' j = oC j) → vl_yL rC' rM' rE' rB' oS' oC' L := by
  intro L
  induction L with
  | nil => intro _ _ _ _ _ _ _; exact True.intro
  | cons l L ih =>
    obtain ⟨b, m, f, e, c, g⟩ := l
    intro ⟨⟨h0, h1, h2, h3, h5, h6, h7⟩, h8⟩ a1 a2 a3 a4 a5 a6
    rw [List.length_cons] at a1 a2 a3 a4 a5 a6
    refine ⟨⟨h0, ?_, ?_, ?_, ?_, ?_, ?_⟩, ih h8 (fun j hj => a1 j (by omega)) (fun j hj => a2 j (by omega)) (fun j hj => a3 j (by omega)) (fun j hj => a4 j (by omega)) (fun j hj => a5 j (by omega)) (fun j hj => a6 j (by omega))⟩
    · rw [a2 _ (by omega)]; exact h1
    · rw [a3 _ (by omega)]; exact h2
    · rw [a4 _ (by omega)]; exact h3
    · rw [a5 _ (by omega)]; exact h5
    · intro p hp; rw [a1 _ (by omega)]; exact h6 p hp
    · intro p hp; rw [a6 _ (by omega)]; exact h7 p hp
theorem vl_yL_el {rC rM rE rB oS oC : Nat → Int32} : ∀ {L : List vl_ln} {i : Nat}, vl_yL rC rM rE rB oS oC L → i < L.length → ∃ e, e < 8 ∧ rE i = nI e ∧ rC (8 * i + e) = vl_el L i := by
  intro L
  induction L with
  | nil => intro i _ h; exact absurd h (by show ¬ i < 0; omega)
  | cons l L ih =>
    obtain ⟨b, m, f, e, c, g⟩ := l
    intro i ⟨⟨h0, h1, h2, h3, h5, h6, h7⟩, h8⟩ hi
    rw [List.length_cons] at hi
    by_cases e1 : i = L.length
    · subst e1
      refine ⟨e, by omega, h2, ?_⟩
      rw [h6 e (by omega)]
      exact (if_pos rfl).symm
    · obtain ⟨e', q1, q2, q3⟩ := ih h8 (i := i) (by omega)
      refine ⟨e', q1, q2, q3.trans ?_⟩
      exact (if_neg e1).symm
/-- a list, top first, as an array from its bottom up -/
def vl_xT (h : Nat → Int32) (a : Nat → Int32) : List Nat → Prop
  | [] => True
  | x :: S => a S.length = h x ∧ vl_xT h a S
theorem vl_xT_congr {h a a' : Nat → Int32} : ∀ {S : List Nat}, vl_xT h a S → (∀ j, j < S.length → a' j = a j) → vl_xT h a' S := by
  intro S
  induction S with
  | nil => intro _ _; exact True.intro
  | cons x S ih =>
    intro ⟨h1, h2⟩ hj
    rw [List.length_cons] at hj
    exact ⟨by rw [hj _ (by omega)]; exact h1, ih h2 (fun j hj' => hj j (by omega))⟩
theorem vl_xT_put {h a : Nat → Int32} {S : List Nat} {x : Nat} {y : Int32} (hS : vl_xT h a S) (hy : y = h x) : vl_xT h (upd a S.length y) (x :: S) :=
  ⟨by rw [pk_us]; exact hy, vl_xT_congr hS (fun j hj => pk_un (by omega))⟩
theorem vl_xT_drop {h a : Nat → Int32} : ∀ {D S : List Nat}, vl_xT h a (D ++ S) → vl_xT h a S := by
  intro D
  induction D with
  | nil => intro S hS; exact hS
  | cons x D ih => intro S hS; exact ih hS.2
/-- a sort as the reference keeps it -/
def vl_yb (x : Nat) : Int32 := if x = 2 then 1 else 0
/-- the sorts on the stack are 1 and 2 alone -/
theorem vl_st_12 {K : Nat → Nat} : ∀ t x, x ∈ (vl_st K t).1 → x = 1 ∨ x = 2 := by
  intro t
  induction t with
  | zero => intro x hx; cases hx
  | succ t ih =>
    intro x hx
    have hx : x ∈ (vl_ss (K t) (vl_st K t)).1 := hx
    unfold vl_ss at hx
    by_cases hk : K t = 19 ∨ K t = 20
    · rw [if_pos hk] at hx
      exact ih x (List.mem_of_mem_drop hx)
    · rw [if_neg hk] at hx
      rcases List.mem_cons.mp hx with rfl | hx
      · unfold vl_gr
        split
        · exact Or.inr rfl
        · exact Or.inl rfl
      · exact ih x (List.mem_of_mem_drop hx)
end
section
/-! part 7: loops over any walk: copying, turning, adding up -/
theorem vl_copy {W : Nat → Nat → (Nat → Int32) → Prop} {src a : Nat → Int32} {o c : Nat}
    (hstop : ∀ k b, (∀ p, p < c → b (o + p) = src p) → (∀ j, j < o ∨ o + c ≤ j → b j = a j) → W (k + 1) c b)
    (hstep : ∀ k i b, i < c → (∀ p, p < i → b (o + p) = src p) → (∀ j, j < o ∨ o + i ≤ j → b j = a j) → W k (i + 1) (upd b (o + i) (src i)) → W (k + 1) i b) : W (c + 1) 0 a := by
  have H : ∀ d i b, i + d = c → (∀ p, p < i → b (o + p) = src p) → (∀ j, j < o ∨ o + i ≤ j → b j = a j) → W (d + 1) i b := by
    intro d
    induction d with
    | zero =>
      intro i b hi h1 h2
      have : i = c := by omega
      subst this
      exact hstop 0 b h1 h2
    | succ d ih =>
      intro i b hi h1 h2
      refine hstep (d + 1) i b (by omega) h1 h2 (ih (i + 1) _ (by omega) ?_ ?_)
      · intro p hp
        by_cases e : p = i
        · subst e; exact pk_us
        · rw [pk_un (by omega)]; exact h1 p (by omega)
      · intro j hj
        rw [pk_un (by omega)]
        exact h2 j (by omega)
  exact H c 0 a (by omega) (fun p hp => by omega) (fun j _ => rfl)
theorem vl_turn {W : Nat → Nat → (Nat → Int32) → Prop} {a : Nat → Int32} {o m : Nat}
    (hstop : ∀ k b, (∀ p, p < m → b (o + p) = a (o + (m - 1 - p))) → (∀ j, j < o ∨ o + m ≤ j → b j = a j) → W (k + 1) (m / 2) b)
    (hstep : ∀ k i b, i < m / 2 → W k (i + 1) (upd (upd b (o + i) (b (o + (m - 1 - i)))) (o + (m - 1 - i)) (b (o + i))) → W (k + 1) i b) : W (m / 2 + 1) 0 a := by
  have H : ∀ d i b, i + d = m / 2 → (∀ p, p < m → (p < i ∨ m - 1 - i < p) → b (o + p) = a (o + (m - 1 - p))) → (∀ p, i ≤ p → p ≤ m - 1 - i → b (o + p) = a (o + p)) → (∀ j, j < o ∨ o + m ≤ j → b j = a j) → W (d + 1) i b := by
    intro d
    induction d with
    | zero =>
      intro i b hi h1 h2 h3
      have : i = m / 2 := by omega
      subst this
      refine hstop 0 b ?_ h3
      intro p hp
      by_cases e : p < m / 2 ∨ m - 1 - m / 2 < p
      · exact h1 p hp e
      · rw [h2 p (by omega) (by omega), show m - 1 - p = p by omega]
    | succ d ih =>
      intro i b hi h1 h2 h3
      refine hstep (d + 1) i b (by omega) (ih (i + 1) _ (by omega) ?_ ?_ ?_)
      · intro p hp hpi
        by_cases e1 : p = m - 1 - i
        · subst e1
          rw [pk_us, h2 i (by omega) (by omega), show m - 1 - (m - 1 - i) = i by omega]
        · rw [pk_un (by omega)]
          by_cases e2 : p = i
          · subst e2
            rw [pk_us, h2 _ (by omega) (by omega)]
          · rw [pk_un (by omega)]
            exact h1 p hp (by omega)
      · intro p hp1 hp2
        rw [pk_un (by omega), pk_un (by omega)]
        exact h2 p (by omega) (by omega)
      · intro j hj
        rw [pk_un (by omega), pk_un (by omega)]
        exact h3 j hj
  exact H (m / 2) 0 a (by omega) (fun p hp h => by omega) (fun p _ _ => rfl) (fun j _ => rfl)
theorem vl_acc {W : Nat → Nat → Int32 → Prop} {F : Nat → Int32} {c : Nat} (i0 : Nat) (h0 : i0 ≤ c) (hstop : ∀ k, W (k + 1) c (F c))
    (hstep : ∀ k i, i0 ≤ i → i < c → W k (i + 1) (F (i + 1)) → W (k + 1) i (F i)) : W (c - i0 + 1) i0 (F i0) := by
  have H : ∀ d i, i0 ≤ i → i + d = c → W (d + 1) i (F i) := by
    intro d
    induction d with
    | zero =>
      intro i _ hi
      have : i = c := by omega
      subst this
      exact hstop 0
    | succ d ih =>
      intro i hi0 hi
      exact hstep (d + 1) i hi0 (by omega) (ih (i + 1) (by omega) (by omega))
  exact H (c - i0) i0 (by omega) (by omega)
/-- running sums in place, upwards -/
theorem vl_scan {W : Nat → Nat → (Nat → Int32) → Prop} {a : Nat → Int32} {o m : Nat}
    (hstop : ∀ k i b, m ≤ i → i ≤ m + 1 → (∀ p, p < m → b (o + p) = vl_sm (fun p => a (o + p)) (p + 1)) → (∀ j, j < o ∨ o + m ≤ j → b j = a j) → W (k + 1) i b)
    (hstep : ∀ k i b, 1 ≤ i → i < m → W k (i + 1) (upd b (o + i) (b (o + i) + b (o + (i - 1)))) → W (k + 1) i b) : W (m + 1) 1 a := by
  have H : ∀ d i b, 1 ≤ i → i ≤ m + 1 → m < i + d + 1 → (∀ p, p < m → p < i → b (o + p) = vl_sm (fun p => a (o + p)) (p + 1)) → (∀ p, i ≤ p → b (o + p) = a (o + p)) → (∀ j, j < o ∨ o + m ≤ j → b j = a j) → W (d + 1) i b := by
    intro d
    induction d with
    | zero =>
      intro i b h0 h0' hi h1 h2 h3
      exact hstop 0 i b (by omega) h0' (fun p hp => h1 p hp (by omega)) h3
    | succ d ih =>
      intro i b h0 h0' hi h1 h2 h3
      by_cases hm : i < m
      · refine hstep (d + 1) i b h0 hm (ih (i + 1) _ (by omega) (by omega) (by omega) ?_ ?_ ?_)
        · intro p hp hpi
          by_cases e : p = i
          · subst e
            rw [pk_us, h2 p (by omega), h1 (p - 1) (by omega) (by omega), show p - 1 + 1 = p by omega, Int32.add_comm]
            rfl
          · rw [pk_un (by omega)]; exact h1 p hp (by omega)
        · intro p hp
          rw [pk_un (by omega)]
          exact h2 p (by omega)
        · intro j hj
          rw [pk_un (by omega)]
          exact h3 j hj
      · exact hstop (d + 1) i b (by omega) h0' (fun p hp => h1 p hp (by omega)) h3
  refine H m 1 a (by omega) (by omega) (by omega) ?_ (fun p _ => rfl) (fun j _ => rfl)
  intro p hp hp1
  have : p = 0 := by omega
  subst this
  show a (o + 0) = 0 + a (o + 0)
  rw [Int32.zero_add]
theorem vl_sm_congr {f g : Nat → Int32} : ∀ {m : Nat}, (∀ p, p < m → f p = g p) → vl_sm f m = vl_sm g m := by
  intro m
  induction m with
  | zero => intro _; rfl
  | succ m ih =>
    intro h
    show vl_sm f m + f m = vl_sm g m + g m
    rw [ih (fun p hp => h p (by omega)), h m (by omega)]
theorem vl_mx_congr {f g : Nat → Int32} : ∀ {m : Nat}, (∀ p, p < m → f p = g p) → vl_mx f m = vl_mx g m := by
  intro m
  induction m with
  | zero => intro _; rfl
  | succ m ih =>
    intro h
    cases m with
    | zero => exact h 0 (by omega)
    | succ m =>
      show (if vl_mx f (m + 1) < f (m + 1) then f (m + 1) else vl_mx f (m + 1)) = (if vl_mx g (m + 1) < g (m + 1) then g (m + 1) else vl_mx g (m + 1))
      rw [ih (fun p hp => h p (by omega)), h (m + 1) (by omega)]
/-- the view of a row in the array, exchanged -/
theorem vl_swv {a : Nat → Int32} {o i : Nat} : (fun p => upd (upd a (o + i) (a (o + (i + 1)))) (o + (i + 1)) (a (o + i)) (o + p)) = vl_sw (fun p => a (o + p)) i := by
  funext p
  unfold vl_sw
  by_cases e1 : p = i
  · subst e1
    rw [if_pos rfl, pk_un (by omega), pk_us]
  · rw [if_neg e1]
    by_cases e2 : p = i + 1
    · subst e2
      rw [if_pos rfl, pk_us]
    · rw [if_neg e2, pk_un (by omega), pk_un (by omega)]
end
section
/-! part 8: the two sorting loops over any walk -/
def vl_fr (o m : Nat) (a b : Nat → Int32) : Prop := ∀ j, j < o ∨ o + m ≤ j → b j = a j
def vl_xc (o i : Nat) (b : Nat → Int32) : Nat → Int32 := upd (upd b (o + i) (b (o + (i + 1)))) (o + (i + 1)) (b (o + i))
theorem vl_xc_v {o i : Nat} {b : Nat → Int32} : (fun p => vl_xc o i b (o + p)) = vl_sw (fun p => b (o + p)) i := vl_swv
theorem vl_xc_fr {o i m : Nat} {a b : Nat → Int32} (h : vl_fr o m a b) (hi : i + 1 < m) : vl_fr o m a (vl_xc o i b) := by
  intro j hj
  unfold vl_xc
  rw [pk_un (by omega), pk_un (by omega)]
  exact h j hj
def vl_cts (o m : Nat) (a b : Nat → Int32) : Prop := ∀ v, vl_ct (fun p => b (o + p)) v m = vl_ct (fun p => a (o + p)) v m
theorem vl_xc_ct {o i m : Nat} {a b : Nat → Int32} (h : vl_cts o m a b) (hi : i + 1 < m) : vl_cts o m a (vl_xc o i b) := by
  intro v
  show vl_ct (fun p => vl_xc o i b (o + p)) v m = _
  rw [vl_xc_v, vl_ct_sw hi]
  exact h v
theorem vl_ins {Wo : Nat → Nat → (Nat → Int32) → Prop} {Wi : Nat → Nat → Nat → Nat → (Nat → Int32) → Prop} {a : Nat → Int32} {o m : Nat}
    (hstop : ∀ k c b, m ≤ c → c ≤ m + 1 → vl_Sd m (fun p => a (o + p)) (fun p => b (o + p)) → vl_fr o m a b → Wo (k + 1) c b)
    (hout : ∀ k c b, 1 ≤ c → c < m → (∃ q, Wi k c q c b) → Wo (k + 1) c b)
    (hexit : ∀ k c q d b, 1 ≤ c → c < m → d ≤ c → (d = 0 ∨ (1 ≤ d ∧ b (o + (d - 1)) ≤ b (o + d))) → Wo k (c + 1) b → Wi k c (q + 1) d b)
    (hstep : ∀ k c q d b, 1 ≤ c → c < m → d + 1 ≤ c → ¬ b (o + d) ≤ b (o + (d + 1)) → Wi k c q d (vl_xc o d b) → Wi k c (q + 1) (d + 1) b) : Wo (m + 1) 1 a := by
  have inner : ∀ k c, 1 ≤ c → c < m → (∀ b, vl_As (c + 1) (fun p => b (o + p)) → vl_cts o m a b → vl_fr o m a b → Wo k (c + 1) b) →
      ∀ d b, d ≤ c → vl_IA c d (fun p => b (o + p)) → vl_cts o m a b → vl_fr o m a b → Wi k c (d + 1) d b := by
    intro k c hc1 hc hW d
    induction d with
    | zero =>
      intro b hd h1 h2 h3
      exact hexit k c 0 0 b hc1 hc hd (Or.inl rfl) (hW b (vl_IAx h1 (Or.inl rfl)) h2 h3)
    | succ d ih =>
      intro b hd h1 h2 h3
      by_cases e : b (o + d) ≤ b (o + (d + 1))
      · exact hexit k c (d + 1) (d + 1) b hc1 hc hd (Or.inr ⟨by omega, e⟩) (hW b (vl_IAx h1 (Or.inr e)) h2 h3)
      · refine hstep k c (d + 1) d b hc1 hc hd e (ih _ (by omega) ?_ (vl_xc_ct h2 (by omega)) (vl_xc_fr h3 (by omega)))
        rw [vl_xc_v]
        exact vl_IAs h1 hd (Int32.le_of_lt (Int32.not_le.mp e))
  have H : ∀ dd c b, 1 ≤ c → c ≤ m + 1 → m < c + dd + 1 → (∀ p q, p < q → q < c → q < m → b (o + p) ≤ b (o + q)) → vl_cts o m a b → vl_fr o m a b → Wo (dd + 1) c b := by
    intro dd
    induction dd with
    | zero =>
      intro c b h0 h0' hi h1 h2 h3
      exact hstop 0 c b (by omega) h0' ⟨fun p q hpq hq => h1 p q hpq (by omega) hq, h2⟩ h3
    | succ dd ih =>
      intro c b h0 h0' hi h1 h2 h3
      by_cases hm : c < m
      · refine hout (dd + 1) c b h0 hm ⟨c + 1, inner (dd + 1) c h0 hm ?_ c b (Nat.le_refl _) (vl_IA0 (fun p q hpq hq => h1 p q hpq hq (by omega))) h2 h3⟩
        intro b' g1 g2 g3
        exact ih (c + 1) b' (by omega) (by omega) (by omega) (fun p q hpq hq _ => g1 p q hpq hq) g2 g3
      · exact hstop (dd + 1) c b (by omega) h0' ⟨fun p q hpq hq => h1 p q hpq (by omega) hq, h2⟩ h3
  exact H m 1 a (by omega) (by omega) (by omega) (fun p q hpq hq _ => by omega) (fun _ => rfl) (fun _ _ => rfl)
theorem vl_bub {Wo : Nat → Nat → (Nat → Int32) → Prop} {Wi : Nat → Nat → Nat → Nat → (Nat → Int32) → Prop} {a : Nat → Int32} {o m : Nat}
    (hstop : ∀ k b, vl_Sd m (fun p => a (o + p)) (fun p => b (o + p)) → vl_fr o m a b → Wo (k + 1) m b)
    (hout : ∀ k c b, c < m → (∃ q, Wi k c q 0 b) → Wo (k + 1) c b)
    (hexit : ∀ k c q l b, c < m → l < m → m ≤ l + 1 → Wo k (c + 1) b → Wi k c (q + 1) l b)
    (hswap : ∀ k c q l b, c < m → l + 1 < m → ¬ b (o + l) ≤ b (o + (l + 1)) → Wi k c q (l + 1) (vl_xc o l b) → Wi k c (q + 1) l b)
    (hkeep : ∀ k c q l b, c < m → l + 1 < m → b (o + l) ≤ b (o + (l + 1)) → Wi k c q (l + 1) b → Wi k c (q + 1) l b) : Wo (m + 1) 0 a := by
  have inner : ∀ k c, c < m → (∀ b, vl_BT m (m - c - 1) (fun p => b (o + p)) → vl_cts o m a b → vl_fr o m a b → Wo k (c + 1) b) →
      ∀ d l b, l + d + 1 = m → vl_Bi m (m - c) l (fun p => b (o + p)) → vl_cts o m a b → vl_fr o m a b → Wi k c (d + 1) l b := by
    intro k c hc hW d
    induction d with
    | zero =>
      intro l b hl h1 h2 h3
      exact hexit k c 0 l b hc (by omega) (by omega) (hW b (vl_Bix h1 (by omega) (by omega)) h2 h3)
    | succ d ih =>
      intro l b hl h1 h2 h3
      by_cases e : b (o + l) ≤ b (o + (l + 1))
      · exact hkeep k c (d + 1) l b hc (by omega) e (ih (l + 1) b (by omega) (vl_Bin h1 e) h2 h3)
      · refine hswap k c (d + 1) l b hc (by omega) e (ih (l + 1) _ (by omega) ?_ (vl_xc_ct h2 (by omega)) (vl_xc_fr h3 (by omega)))
        rw [vl_xc_v]
        exact vl_Bis h1 (by omega) e
  have H : ∀ dd c b, c + dd = m → vl_BT m (m - c) (fun p => b (o + p)) → vl_cts o m a b → vl_fr o m a b → Wo (dd + 1) c b := by
    intro dd
    induction dd with
    | zero =>
      intro c b hc h1 h2 h3
      have : c = m := by omega
      subst this
      rw [Nat.sub_self] at h1
      exact hstop 0 b ⟨vl_BTx h1, h2⟩ h3
    | succ dd ih =>
      intro c b hc h1 h2 h3
      refine hout (dd + 1) c b (by omega) ⟨m - 1 + 1, inner (dd + 1) c (by omega) ?_ (m - 1) 0 b (by omega) (vl_Bi0 h1) h2 h3⟩
      intro b' g1 g2 g3
      exact ih (c + 1) b' (by omega) (by rw [show m - (c + 1) = m - c - 1 by omega]; exact g1) g2 g3
  refine H m 0 a (by omega) ?_ (fun _ => rfl) (fun _ _ => rfl)
  intro p q hpq hq hMq
  omega
end
section
/-! part 9: what a token finds, place by place from the top -/
theorem vl_xT_get {h a : Nat → Int32} : ∀ {S : List Nat} {i : Nat}, vl_xT h a S → i < S.length → a (S.length - 1 - i) = h (S.getD i 0) := by
  intro S
  induction S with
  | nil => intro i _ hi; exact absurd hi (by show ¬ i < 0; omega)
  | cons x S ih =>
    intro i ⟨h1, h2⟩ hi
    rw [List.length_cons] at hi ⊢
    cases i with
    | zero =>
      rw [show S.length + 1 - 1 - 0 = S.length by omega]
      exact h1
    | succ i =>
      rw [show S.length + 1 - 1 - (i + 1) = S.length - 1 - i by omega]
      exact ih h2 (by omega)
def vl_sd (S F : List Nat) (i w : Nat) : Prop := vl_base F + i + 1 ≤ S.length ∧ S.getD i 0 = w
theorem vl_p1 {S F : List Nat} {x : Nat} : (∃ R, S = [x] ++ R ∧ vl_base F ≤ R.length) ↔ vl_sd S F 0 x := by
  constructor
  · rintro ⟨R, rfl, h⟩
    exact ⟨by show _ ≤ R.length + 1; omega, rfl⟩
  · rintro ⟨h, e⟩
    match S, h, e with
    | [], h, _ => exact absurd h (by show ¬ _ ≤ 0; omega)
    | y :: R, h, e =>
      have e : y = x := e
      subst e
      have h : vl_base F + 0 + 1 ≤ R.length + 1 := h
      exact ⟨R, rfl, by omega⟩
theorem vl_p2 {S F : List Nat} {x y : Nat} : (∃ R, S = [x, y] ++ R ∧ vl_base F ≤ R.length) ↔ (vl_sd S F 0 x ∧ vl_sd S F 1 y) := by
  constructor
  · rintro ⟨R, rfl, h⟩
    exact ⟨⟨by show _ ≤ R.length + 1 + 1; omega, rfl⟩, ⟨by show _ ≤ R.length + 1 + 1; omega, rfl⟩⟩
  · rintro ⟨⟨-, e⟩, ⟨h, e2⟩⟩
    match S, h, e, e2 with
    | [], h, _, _ => exact absurd h (by show ¬ _ ≤ 0; omega)
    | [_], h, _, _ => exact absurd h (by show ¬ _ ≤ 1; omega)
    | a :: b :: R, h, e, e2 =>
      have e : a = x := e
      have e2 : b = y := e2
      subst e e2
      have h : vl_base F + 1 + 1 ≤ R.length + 1 + 1 := h
      exact ⟨R, rfl, by omega⟩
theorem vl_p3 {S F : List Nat} {x y z : Nat} : (∃ R, S = [x, y, z] ++ R ∧ vl_base F ≤ R.length) ↔ (vl_sd S F 0 x ∧ vl_sd S F 1 y ∧ vl_sd S F 2 z) := by
  constructor
  · rintro ⟨R, rfl, h⟩
    exact ⟨⟨by show _ ≤ R.length + 1 + 1 + 1; omega, rfl⟩, ⟨by show _ ≤ R.length + 1 + 1 + 1; omega, rfl⟩, ⟨by show _ ≤ R.length + 1 + 1 + 1; omega, rfl⟩⟩
  · rintro ⟨⟨-, e⟩, ⟨-, e2⟩, ⟨h, e3⟩⟩
    match S, h, e, e2, e3 with
    | [], h, _, _, _ => exact absurd h (by show ¬ _ ≤ 0; omega)
    | [_], h, _, _, _ => exact absurd h (by show ¬ _ ≤ 1; omega)
    | [_, _], h, _, _, _ => exact absurd h (by show ¬ _ ≤ 2; omega)
    | a :: b :: c :: R, h, e, e2, e3 =>
      have e : a = x := e
      have e2 : b = y := e2
      have e3 : c = z := e3
      subst e e2 e3
      have h : vl_base F + 2 + 1 ≤ R.length + 1 + 1 + 1 := h
      exact ⟨R, rfl, by omega⟩
theorem vl_fd_n {k : Nat} {S F : List Nat} (hk : k ≠ 21) : vl_fd k (S, F) ↔ ∃ R, S = vl_nd k ++ R ∧ vl_base F ≤ R.length :=
  ⟨fun ⟨R, h1, h2, _⟩ => ⟨R, h1, h2⟩, fun ⟨R, h1, h2⟩ => ⟨R, h1, h2, fun z => absurd z hk⟩⟩
theorem vl_fd_0 {k : Nat} {S F : List Nat} (hk : k < 3) (hb : vl_base F ≤ S.length) : vl_fd k (S, F) := by
  rw [vl_fd_n (by omega)]
  exact ⟨S, by unfold vl_nd; rw [if_pos hk]; rfl, hb⟩
theorem vl_fd_nn {k : Nat} {S F : List Nat} (h1 : 3 ≤ k) (h2 : k < 9) : vl_fd k (S, F) ↔ (vl_sd S F 0 1 ∧ vl_sd S F 1 1) := by
  rw [vl_fd_n (by omega), ← vl_p2, show vl_nd k = [1, 1] by unfold vl_nd; rw [if_neg (by omega), if_pos h2]]
theorem vl_fd_9 {S F : List Nat} : vl_fd 9 (S, F) ↔ (vl_sd S F 0 1 ∧ vl_sd S F 1 1 ∧ vl_sd S F 2 1) := by
  rw [vl_fd_n (by omega), ← vl_p3]; exact Iff.rfl
theorem vl_fd_13 {S F : List Nat} : vl_fd 13 (S, F) ↔ (vl_sd S F 0 1 ∧ vl_sd S F 1 2) := by
  rw [vl_fd_n (by omega), ← vl_p2]; exact Iff.rfl
theorem vl_fd_14 {S F : List Nat} : vl_fd 14 (S, F) ↔ vl_sd S F 0 1 := by
  rw [vl_fd_n (by omega), ← vl_p1]; exact Iff.rfl
theorem vl_fd_15 {S F : List Nat} : vl_fd 15 (S, F) ↔ (vl_sd S F 0 2 ∧ vl_sd S F 1 2) := by
  rw [vl_fd_n (by omega), ← vl_p2]; exact Iff.rfl
theorem vl_fd_r {k : Nat} {S F : List Nat} (h : k = 10 ∨ k = 11 ∨ k = 12 ∨ k = 16 ∨ k = 17 ∨ k = 18 ∨ k = 19 ∨ k = 20) : vl_fd k (S, F) ↔ vl_sd S F 0 2 := by
  rw [vl_fd_n (by omega), ← vl_p1, show vl_nd k = [2] by rcases h with rfl | rfl | rfl | rfl | rfl | rfl | rfl | rfl <;> rfl]
theorem vl_fd_21 {S F : List Nat} : vl_fd 21 (S, F) ↔ (F ≠ [] ∧ S.length = vl_base F + 1 ∧ vl_sd S F 0 1) := by
  constructor
  · rintro ⟨R, h1, h2, h3⟩
    have h1 : S = 1 :: R := h1
    subst h1
    obtain ⟨g1, g2⟩ := h3 rfl
    exact ⟨g1, by show R.length + 1 = _; rw [g2], ⟨by show _ ≤ R.length + 1; exact Nat.succ_le_succ h2, rfl⟩⟩
  · rintro ⟨g1, g2, g3⟩
    obtain ⟨R, h1, h2⟩ := vl_p1.mpr g3
    have h1 : S = 1 :: R := h1
    subst h1
    have g2 : R.length + 1 = vl_base F + 1 := g2
    exact ⟨R, rfl, h2, fun _ => ⟨g1, by show R.length = vl_base F; omega⟩⟩
def vl_Fs : List Nat → Nat → Prop
  | [], _ => True
  | x :: F, h => x ≤ h ∧ vl_Fs F x
theorem vl_Fs_mono {F : List Nat} {h h' : Nat} (g : vl_Fs F h) (hb : vl_base F ≤ h') : vl_Fs F h' := by
  cases F with
  | nil => exact True.intro
  | cons x F => exact ⟨hb, g.2⟩
theorem vl_Fs_base {F : List Nat} {h : Nat} (g : vl_Fs F h) : vl_base F ≤ h := by
  cases F with
  | nil => exact Nat.zero_le _
  | cons x F => exact g.1
theorem vl_Fs_ss {k : Nat} {s : List Nat × List Nat} (h2 : vl_fd k s) (g : vl_Fs s.2 s.1.length) : vl_Fs (vl_ss k s).2 (vl_ss k s).1.length := by
  obtain ⟨S, F⟩ := s
  have g : vl_Fs F S.length := g
  obtain ⟨R, e, hb, g1, g2, g3⟩ := vl_ss_ok h2
  by_cases hk : k = 19 ∨ k = 20
  · rw [g1 hk]
    exact ⟨Nat.le_refl _, vl_Fs_mono g hb⟩
  · rw [g2 hk]
    by_cases h21 : k = 21
    · obtain ⟨q1, q2⟩ := g3 h21
      rw [if_pos h21]
      cases F with
      | nil => exact absurd rfl q1
      | cons x F =>
        have q2 : R.length = x := q2
        have g : x ≤ S.length ∧ vl_Fs F x := g
        show vl_Fs F (R.length + 1)
        have := vl_Fs_base g.2
        exact vl_Fs_mono g.2 (by omega)
    · rw [if_neg h21]
      show vl_Fs F (R.length + 1)
      exact vl_Fs_mono g (by omega)
theorem vl_base_le {K : Nat → Nat} {A : Nat → Int32} {n : Nat} (h : vl_PG K A n) : ∀ t, t ≤ n → vl_Fs (vl_st K t).2 (vl_st K t).1.length := by
  intro t
  induction t with
  | zero => intro _; exact True.intro
  | succ t ih =>
    intro ht
    obtain ⟨h1, h2, h3, -⟩ := h t (by omega)
    exact vl_Fs_ss h2 (ih (by omega))
/-- one token more -/
theorem vl_PG_s {K : Nat → Nat} {A : Nat → Int32} {n k : Nat} {a : Int32} (h : vl_PG K A n) (ho : vl_ok k a (vl_st K n)) : vl_PG (fun t => if t = n then k else K t) (upd A n a) (n + 1) := by
  intro t ht
  have e : vl_st (fun t => if t = n then k else K t) t = vl_st K t := vl_st_congr (fun j hj => if_neg (by omega))
  rw [e]
  by_cases e2 : t = n
  · subst e2
    rw [pk_us]
    show vl_ok (if t = t then k else K t) a _
    rw [if_pos rfl]
    exact ho
  · rw [pk_un e2]
    show vl_ok (if t = n then k else K t) (A t) _
    rw [if_neg e2]
    exact h t (by omega)
theorem vl_st_new {K : Nat → Nat} {n k : Nat} : vl_st (fun t => if t = n then k else K t) (n + 1) = vl_ss k (vl_st K n) := by
  show vl_ss (if n = n then k else K n) (vl_st (fun t => if t = n then k else K t) n) = _
  rw [if_pos rfl, vl_st_congr (K' := K) (fun j hj => if_neg (by omega))]
end
section
/-! part 10: the component's small methods -/
variable {tc sc ob vc nt lc : Int32} {ic iz ki op so bb vC vS lC lS lP lK lT mC mS : Nat → Int32} {K : Nat → Nat}
theorem vx_push {post : SX → Prop} {v : Int32} {h : Nat} (hh : h < 6) (hp : post (tc, sc, ob, nI (h + 1), nt, lc, ic, iz, ki, op, so, bb, upd vC (8 * h) v, upd vS h 1, lC, lS, lP, lK, lT, mC, mS)) : wpX_pushNumber post (tc, sc, ob, nI h, nt, lc, ic, iz, ki, op, so, bb, vC, vS, lC, lS, lP, lK, lT, mC, mS) v := by
  unfold wpX_pushNumber
  simp (disch := omega) only [vl_m8, nI_clamp, vl_in, forall_eq, true_and, nI_1]
  exact hp
theorem vx_pop {post : Int32 → SX → Prop} {h : Nat} (hh : h < 6) (hp : post (vC (8 * h)) (tc, sc, ob, nI h, nt, lc, ic, iz, ki, op, so, bb, vC, vS, lC, lS, lP, lK, lT, mC, mS)) : wpX_popNumber post (tc, sc, ob, nI (h + 1), nt, lc, ic, iz, ki, op, so, bb, vC, vS, lC, lS, lP, lK, lT, mC, mS) := by
  unfold wpX_popNumber
  simp (disch := omega) only [nI_pred, vl_m8, nI_clamp, vl_in, forall_eq, true_and]
  exact hp
theorem vx_elem {post : Int32 → Prop} {i : Nat} {L : List vl_ln} (hL : vl_xL K lC lS lP lK lT mC mS L) (hi : i < L.length) (h2 : L.length ≤ 2) (hp : post (vl_el L i)) : wpX_currentElement post (tc, sc, ob, vc, nt, lc, ic, iz, ki, op, so, bb, vC, vS, lC, lS, lP, lK, lT, mC, mS) (nI i) := by
  obtain ⟨e, he, h3, h4⟩ := vl_xL_el hL hi
  unfold wpX_currentElement
  simp (disch := omega) only [nI_clamp, h3, vl_m8, nI_add, vl_in, true_and, h4]
  exact hp
theorem vx_pushInput {post : SX → Prop} {h i c : Nat} (hh : h < 6) (hi : i < 3) (hc : c ≤ 8) (hz : iz i = nI c)
    (hp : ∀ b, (∀ p, p < c → b (8 * h + p) = ic (8 * i + p)) → (∀ j, j < 8 * h ∨ 8 * h + c ≤ j → b j = vC j) → post (tc, sc, ob, nI (h + 1), nt, lc, ic, iz, ki, op, so, bb, b, upd vS h (nI c), lC, lS, lP, lK, lT, mC, mS)) : wpX_pushInput post (tc, sc, ob, nI h, nt, lc, ic, iz, ki, op, so, bb, vC, vS, lC, lS, lP, lK, lT, mC, mS) (nI i) := by
  unfold wpX_pushInput
  simp (disch := omega) only [vl_m8, nI_clamp, hz, vl_in, forall_eq, true_and]
  refine ⟨c + 1, vl_copy (W := fun k p b => wX_pushInput_24 post (nI (8 * h)) (nI (8 * i)) (nI c) tc sc ob (nI h) nt lc k (nI p) ic iz ki op so bb (b) vS lC lS lP lK lT mC mS) (src := fun p => ic (8 * i + p)) (a := vC) (o := 8 * h) (c := c) ?_ ?_⟩
  · intro k b h1 h2
    refine br_t (nI_le (Nat.le_refl _) (by omega)) ?_
    simp (disch := omega) only [nI_clamp, vl_in, forall_eq, true_and, nI_1]
    exact hp b h1 h2
  · intro k p b hpc h1 h2 h3
    refine br_f (nI_ge hpc (by omega)) ?_
    simp (disch := omega) only [nI_add, nI_clamp, vl_in, forall_eq, true_and, nI_1]
    exact h3
theorem vx_sumOf {post : Int32 → Prop} {f : Nat → Int32} {o c : Nat} (ho : o + c ≤ 48) (hf : ∀ p, p < c → vC (o + p) = f p) (hp : post (vl_sm f c)) : wpX_sumOf post (tc, sc, ob, vc, nt, lc, ic, iz, ki, op, so, bb, vC, vS, lC, lS, lP, lK, lT, mC, mS) (nI o) (nI c) := by
  unfold wpX_sumOf
  refine ⟨c - 0 + 1, vl_acc (W := fun k p s => wX_sumOf_5 post (nI o) (nI c) tc sc ob vc nt lc ic iz ki op so bb vC vS lC lS lP lK lT mC mS k s (nI p)) (F := vl_sm f) (c := c) 0 (by omega) ?_ ?_⟩
  · intro k
    exact br_t (nI_le (Nat.le_refl _) (by omega)) hp
  · intro k p _ hpc h3
    refine br_f (nI_ge hpc (by omega)) ?_
    simp (disch := omega) only [nI_add, nI_clamp, vl_in, forall_eq, true_and, nI_1, hf p hpc]
    exact h3
theorem vx_greatestOf {post : Int32 → Prop} {f : Nat → Int32} {o c : Nat} (ho : o + c ≤ 48) (h48 : o < 48) (hf : ∀ p, p < c → vC (o + p) = f p) (hp : post (vl_mx f c)) : wpX_greatestOf post (tc, sc, ob, vc, nt, lc, ic, iz, ki, op, so, bb, vC, vS, lC, lS, lP, lK, lT, mC, mS) (nI o) (nI c) := by
  unfold wpX_greatestOf
  by_cases h0 : c = 0
  · subst h0
    exact br_t rfl hp
  · refine br_f (by rw [vl_z (by omega)]; exact h0) ?_
    have e0 : vC o = vl_mx f 1 := hf 0 (by omega)
    simp (disch := omega) only [nI_clamp, vl_in, forall_eq, true_and, e0]
    refine ⟨c - 1 + 1, vl_acc (W := fun k p s => wX_greatestOf_16 post (nI o) (nI c) tc sc ob vc nt lc ic iz ki op so bb vC vS lC lS lP lK lT mC mS k s (nI p)) (F := vl_mx f) (c := c) 1 (by omega) ?_ ?_⟩
    · intro k
      exact br_t (nI_le (Nat.le_refl _) (by omega)) hp
    · intro k p hp1 hpc h3
      refine br_f (nI_ge hpc (by omega)) ?_
      simp (disch := omega) only [nI_add, nI_clamp, vl_in, forall_eq, true_and, nI_1, hf p hpc]
      cases p with
      | zero => omega
      | succ p =>
        have e1 : vl_mx f (p + 1 + 1) = if vl_mx f (p + 1) < f (p + 1) then f (p + 1) else vl_mx f (p + 1) := rfl
        by_cases hg : f (p + 1) ≤ vl_mx f (p + 1)
        · rw [e1, if_neg (Int32.not_lt.mpr hg)] at h3
          exact br_t hg h3
        · rw [e1, if_pos (Int32.not_le.mp hg)] at h3
          exact br_f hg h3
end
section
/-! part 11: the component's tokens over the stack -/
variable {tc sc ob vc nt lc : Int32} {ic iz ki op so bb vC vS lC lS lP lK lT mC mS : Nat → Int32} {K : Nat → Nat} {s : List vl_rw} {post : SX → Prop}
theorem vl_cl_le {j : Nat} (h : j ≤ 8) : vl_cl (nI j) = j := by
  have h1 : ¬ (8 : Int32) < nI j := nI_nlt (a := 8) (b := j) h (by decide)
  unfold vl_cl
  rw [if_neg (nI_pos (by omega)), if_neg h1, nI_clamp (by omega)]
theorem vl_cl_gt {j : Nat} (h : 8 < j) (hj : j < 2 ^ 31) : vl_cl (nI j) = 8 := by
  have h1 : (8 : Int32) < nI j := nI_lt (a := 8) h hj
  unfold vl_cl
  rw [if_neg (nI_pos hj), if_pos h1]
theorem vx_comb {post : Int32 → Prop} {k : Nat} {n m : Int32} (h3 : 3 ≤ k) (h9 : k < 9) (hp : post (vl_cm k n m)) : wpX_combine post (tc, sc, ob, vc, nt, lc, ic, iz, ki, op, so, bb, vC, vS, lC, lS, lP, lK, lT, mC, mS) (nI k) n m := by
  have c : k = 3 ∨ k = 4 ∨ k = 5 ∨ k = 6 ∨ k = 7 ∨ k = 8 := by omega
  unfold wpX_combine
  rcases c with rfl | rfl | rfl | rfl | rfl | rfl
  · exact br_f (by decide) (br_f (by decide) (br_t (by decide) hp))
  · exact br_f (by decide) (br_f (by decide) (br_f (by decide) (br_t (by decide) hp)))
  · exact br_f (by decide) (br_f (by decide) (br_f (by decide) (br_f (by decide) (br_t (by decide) hp))))
  · have e : vl_cm 6 n m = if m = 0 then 0 else n / m := rfl
    rw [e] at hp
    refine br_f (by decide) (br_f (by decide) (br_f (by decide) (br_f (by decide) (br_f (by decide) (br_t (by decide) (br_c ?_ ?_))))))
    · intro z; rw [if_pos z] at hp; exact hp
    · intro z; rw [if_neg z] at hp; exact ⟨z, hp⟩
  · have e : vl_cm 7 n m = if n < m then 1 else 0 := rfl
    rw [e] at hp
    refine br_f (by decide) (br_f (by decide) (br_f (by decide) (br_f (by decide) (br_f (by decide) (br_f (by decide) (br_t (by decide) (br_c ?_ ?_)))))))
    · intro z; rw [if_neg (Int32.not_lt.mpr z)] at hp; exact hp
    · intro z; rw [if_pos (Int32.not_le.mp z)] at hp; exact hp
  · have e : vl_cm 8 n m = if n = m then 1 else 0 := rfl
    rw [e] at hp
    refine br_f (by decide) (br_t (by decide) (br_c ?_ ?_))
    · intro z; rw [if_pos z] at hp; exact hp
    · intro z; rw [if_neg z] at hp; exact hp
theorem vx_pair {k : Nat} (h3 : 3 ≤ k) (h9 : k < 9) {m n : vl_rw} (hs : vl_xS vC vS (m :: n :: s)) (hm : m.1 = 1) (hn : n.1 = 1) (hl : s.length + 2 ≤ 6)
    (hp : ∀ C Z, vl_xS C Z ((1, fun _ => vl_cm k (n.2 0) (m.2 0)) :: s) → post (tc, sc, ob, nI (s.length + 1), nt, lc, ic, iz, ki, op, so, bb, C, Z, lC, lS, lP, lK, lT, mC, mS)) : wpX_runPair post (tc, sc, ob, nI (s.length + 2), nt, lc, ic, iz, ki, op, so, bb, vC, vS, lC, lS, lP, lK, lT, mC, mS) (nI k) := by
  have e1 : vC (8 * (s.length + 1)) = m.2 0 := vl_xS_0 hs hm
  have e2 : vC (8 * s.length) = n.2 0 := vl_xS_0 hs.2 hn
  unfold wpX_runPair
  refine vx_pop (h := s.length + 1) (by omega) ?_
  refine vx_pop (h := s.length) (by omega) ?_
  refine vx_comb h3 h9 ?_
  rw [e1, e2]
  refine vx_push (by omega) ?_
  exact hp _ _ (vl_xS_num hs.2.2)
theorem vx_pick {k m n : vl_rw} (hs : vl_xS vC vS (k :: m :: n :: s)) (hk : k.1 = 1) (hm : m.1 = 1) (hn : n.1 = 1) (hl : s.length + 3 ≤ 6)
    (hp : ∀ C Z, vl_xS C Z ((1, fun _ => if n.2 0 = 0 then k.2 0 else m.2 0) :: s) → post (tc, sc, ob, nI (s.length + 1), nt, lc, ic, iz, ki, op, so, bb, C, Z, lC, lS, lP, lK, lT, mC, mS)) : wpX_runPick post (tc, sc, ob, nI (s.length + 3), nt, lc, ic, iz, ki, op, so, bb, vC, vS, lC, lS, lP, lK, lT, mC, mS) := by
  have e0 : vC (8 * (s.length + 2)) = k.2 0 := vl_xS_0 hs hk
  have e1 : vC (8 * (s.length + 1)) = m.2 0 := vl_xS_0 hs.2 hm
  have e2 : vC (8 * s.length) = n.2 0 := vl_xS_0 hs.2.2 hn
  unfold wpX_runPick
  refine vx_pop (h := s.length + 2) (by omega) ?_
  refine vx_pop (h := s.length + 1) (by omega) ?_
  refine vx_pop (h := s.length) (by omega) ?_
  rw [e0, e1, e2]
  refine br_c ?_ ?_
  · intro z
    refine vx_push (by omega) ?_
    have e : (if n.2 0 = 0 then k.2 0 else m.2 0) = k.2 0 := if_pos z
    rw [e] at hp
    exact hp _ _ (vl_xS_num hs.2.2.2)
  · intro z
    refine vx_push (by omega) ?_
    have e : (if n.2 0 = 0 then k.2 0 else m.2 0) = m.2 0 := if_neg z
    rw [e] at hp
    exact hp _ _ (vl_xS_num hs.2.2.2)
theorem vx_meas {k : Nat} (hk : k = 10 ∨ k = 11 ∨ k = 12) {r : vl_rw} (hs : vl_xS vC vS (r :: s)) (hl : s.length + 1 ≤ 6)
    (hp : ∀ C Z, vl_xS C Z ((1, fun _ => if k = 10 then nI r.1 else if k = 11 then vl_sm r.2 r.1 else vl_mx r.2 r.1) :: s) → post (tc, sc, ob, nI (s.length + 1), nt, lc, ic, iz, ki, op, so, bb, C, Z, lC, lS, lP, lK, lT, mC, mS)) : wpX_runMeasure post (tc, sc, ob, nI (s.length + 1), nt, lc, ic, iz, ki, op, so, bb, vC, vS, lC, lS, lP, lK, lT, mC, mS) (nI k) := by
  obtain ⟨⟨g1, g2, g3⟩, g4⟩ := hs
  unfold wpX_runMeasure
  simp (disch := omega) only [nI_pred, vl_m8, nI_clamp, vl_in, forall_eq, true_and, g1]
  rcases hk with rfl | rfl | rfl
  · refine br_f (by decide) (br_f (by decide) ?_)
    refine vx_push (by omega) ?_
    exact hp _ _ (vl_xS_num g4)
  · refine br_t (by decide) ?_
    refine vx_sumOf (by omega) g3 ?_
    refine vx_push (by omega) ?_
    exact hp _ _ (vl_xS_num g4)
  · refine br_f (by decide) (br_t (by decide) ?_)
    refine vx_greatestOf (by omega) (by omega) g3 ?_
    refine vx_push (by omega) ?_
    exact hp _ _ (vl_xS_num g4)
theorem vx_at {i r : vl_rw} (hs : vl_xS vC vS (i :: r :: s)) (hi : i.1 = 1) (hl : s.length + 2 ≤ 6)
    (hp : ∀ C Z, vl_xS C Z ((1, fun _ => vl_at (i.2 0) r) :: s) → post (tc, sc, ob, nI (s.length + 1), nt, lc, ic, iz, ki, op, so, bb, C, Z, lC, lS, lP, lK, lT, mC, mS)) : wpX_runAt post (tc, sc, ob, nI (s.length + 2), nt, lc, ic, iz, ki, op, so, bb, vC, vS, lC, lS, lP, lK, lT, mC, mS) := by
  have e1 : vC (8 * (s.length + 1)) = i.2 0 := vl_xS_0 hs hi
  obtain ⟨-, ⟨g1, g2, g3⟩, g4⟩ := hs
  unfold wpX_runAt
  refine vx_pop (h := s.length + 1) (by omega) ?_
  rw [e1]
  simp (disch := omega) only [nI_pred, nI_clamp, vl_in, forall_eq, true_and, g1, vl_m8]
  refine br_c ?_ ?_
  · intro z
    refine vx_push (by omega) ?_
    have e : vl_at (i.2 0) r = 0 := if_neg (fun w => Int32.not_lt.mpr w.1 z)
    rw [e] at hp
    exact hp _ _ (vl_xS_num g4)
  · intro z
    obtain ⟨j, hj, ej⟩ := nI_of z
    rw [ej] at hp ⊢
    refine br_c ?_ ?_
    · intro z2
      refine vx_push (by omega) ?_
      have e : vl_at (nI j) r = 0 := if_neg (fun w => Int32.not_lt.mpr z2 w.2)
      rw [e] at hp
      exact hp _ _ (vl_xS_num g4)
    · intro z2
      rw [nI_leI (by omega) hj] at z2
      simp (disch := omega) only [nI_add, nI_clamp, vl_in, forall_eq, true_and]
      rw [g3 j (by omega)]
      refine vx_push (by omega) ?_
      have e : vl_at (nI j) r = r.2 j := by
        unfold vl_at
        rw [if_pos ⟨nI_pos' hj, nI_lt (by omega) (by omega)⟩, nI_clamp hj]
      rw [e] at hp
      exact hp _ _ (vl_xS_num g4)
theorem vx_up30 {c : Nat} (hc : c ≤ 8) (g4 : vl_xS vC vS s) (hl : s.length + 1 ≤ 6)
    (hp : ∀ C Z, vl_xS C Z ((c, fun p => nI p) :: s) → post (tc, sc, ob, nI (s.length + 1), nt, lc, ic, iz, ki, op, so, bb, C, Z, lC, lS, lP, lK, lT, mC, mS)) : ∃ n, wX_runUpTo_30 post (nI c) (nI (8 * s.length)) tc sc ob (nI s.length) nt lc n 0 ic iz ki op so bb vC vS lC lS lP lK lT mC mS := by
  refine ⟨c + 1, vl_copy (W := fun k p b => wX_runUpTo_30 post (nI c) (nI (8 * s.length)) tc sc ob (nI s.length) nt lc k (nI p) ic iz ki op so bb (b) vS lC lS lP lK lT mC mS) (src := fun p => nI p) (a := vC) (o := 8 * s.length) (c := c) ?_ ?_⟩
  · intro k b h1 h2
    refine br_t (nI_le (Nat.le_refl _) (by omega)) ?_
    simp (disch := omega) only [nI_clamp, vl_in, forall_eq, true_and, nI_1]
    exact hp _ _ (vl_xS_push g4 hc pk_us h1 (fun j hj => h2 j (Or.inl hj)) (fun j hj => pk_un (by omega)))
  · intro k p b hpc h1 h2 h3
    refine br_f (nI_ge hpc (by omega)) ?_
    simp (disch := omega) only [nI_add, nI_clamp, vl_in, forall_eq, true_and, nI_1]
    exact h3
theorem vx_upto {c : vl_rw} (hs : vl_xS vC vS (c :: s)) (h1 : c.1 = 1) (hl : s.length + 1 ≤ 6)
    (hp : ∀ C Z, vl_xS C Z ((vl_cl (c.2 0), fun p => nI p) :: s) → post (tc, sc, ob, nI (s.length + 1), nt, lc, ic, iz, ki, op, so, bb, C, Z, lC, lS, lP, lK, lT, mC, mS)) : wpX_runUpTo post (tc, sc, ob, nI (s.length + 1), nt, lc, ic, iz, ki, op, so, bb, vC, vS, lC, lS, lP, lK, lT, mC, mS) := by
  have e1 : vC (8 * s.length) = c.2 0 := vl_xS_0 hs h1
  unfold wpX_runUpTo
  refine vx_pop (h := s.length) (by omega) ?_
  rw [e1]
  refine br_c ?_ ?_
  · intro z
    obtain ⟨j, hj, ej⟩ := nI_of (Int32.not_lt.mpr z)
    rw [ej] at hp ⊢
    unfold wX_runUpTo_11
    simp only [vl_m8, forall_eq]
    refine pk_le j 8 ?_ ?_ rfl rfl hj
    · intro hj8
      have e : vl_cl (nI j) = j := vl_cl_le hj8
      rw [e] at hp
      exact vx_up30 hj8 hs.2 hl hp
    · intro hj8
      have e : vl_cl (nI j) = 8 := vl_cl_gt hj8 hj
      rw [e] at hp
      exact vx_up30 (c := 8) (by omega) hs.2 hl hp
  · intro z
    have e : vl_cl (c.2 0) = 0 := if_pos (Int32.not_le.mp z)
    rw [e] at hp
    unfold wX_runUpTo_11
    simp only [vl_m8, forall_eq]
    refine br_t (by decide) ?_
    exact vx_up30 (c := 0) (by omega) hs.2 hl hp
end
section
/-! part 12: the component's rows: join, turn, scan, sort -/
variable {tc sc ob vc nt lc : Int32} {ic iz ki op so bb vC vS lC lS lP lK lT mC mS : Nat → Int32} {K : Nat → Nat} {s : List vl_rw} {post : SX → Prop}
theorem vl_xS_top {C Z C' : Nat → Int32} {r : vl_rw} {g : Nat → Int32} (h : vl_xS C Z (r :: s)) (hc : ∀ p, p < r.1 → C' (8 * s.length + p) = g p) (hC : ∀ j, j < 8 * s.length → C' j = C j) : vl_xS C' Z ((r.1, g) :: s) :=
  ⟨⟨h.1.1, h.1.2.1, hc⟩, vl_xS_congr h.2 hC (fun _ _ => rfl)⟩
theorem vx_join {q r : vl_rw} (hs : vl_xS vC vS (q :: r :: s)) (hl : s.length + 2 ≤ 6)
    (hp : ∀ C Z, vl_xS C Z ((if r.1 + q.1 < 8 then r.1 + q.1 else 8, fun p => if p < r.1 then r.2 p else q.2 (p - r.1)) :: s) → post (tc, sc, ob, nI (s.length + 1), nt, lc, ic, iz, ki, op, so, bb, C, Z, lC, lS, lP, lK, lT, mC, mS)) : wpX_runJoin post (tc, sc, ob, nI (s.length + 2), nt, lc, ic, iz, ki, op, so, bb, vC, vS, lC, lS, lP, lK, lT, mC, mS) := by
  obtain ⟨⟨f1, f2, f3⟩, ⟨g1, g2, g3⟩, g4⟩ := hs
  have f1 : vS (s.length + 1) = nI q.1 := f1
  have f3 : ∀ p, p < q.1 → vC (8 * (s.length + 1) + p) = q.2 p := f3
  unfold wpX_runJoin
  simp (disch := omega) only [nI_pred, nI_clamp, vl_in, forall_eq, true_and, g1, f1, vl_m8]
  obtain ⟨c, hc⟩ : ∃ c, c = if r.1 + q.1 < 8 then q.1 else 8 - r.1 := ⟨_, rfl⟩
  have hc1 : c ≤ q.1 := by rw [hc]; split <;> omega
  have hc2 : r.1 + c = if r.1 + q.1 < 8 then r.1 + q.1 else 8 := by rw [hc]; split <;> omega
  have hc3 : r.1 + c ≤ 8 := by rw [hc2]; split <;> omega
  have hc4 : c < q.1 → 8 ≤ r.1 + c := by rw [hc]; split <;> omega
  rw [← hc2] at hp
  refine ⟨c + 1, vl_copy (W := fun k p b => wX_runJoin_52 post (nI s.length) (nI (8 * s.length)) (nI (8 * (s.length + 1))) (nI q.1) tc sc ob (nI (s.length + 1)) nt lc k (nI (r.1 + p)) (nI p) ic iz ki op so bb (b) vS lC lS lP lK lT mC mS) (src := q.2) (a := vC) (o := 8 * s.length + r.1) (c := c) ?_ ?_⟩
  · intro k b h1 h2
    have fin : post (tc, sc, ob, nI (s.length + 1), nt, lc, ic, iz, ki, op, so, bb, b, upd vS s.length (nI (r.1 + c)), lC, lS, lP, lK, lT, mC, mS) := by
      refine hp _ _ (vl_xS_push g4 hc3 pk_us ?_ (fun j hj => h2 j (by omega)) (fun j hj => pk_un (by omega)))
      intro p hpp
      have hpp : p < r.1 + c := hpp
      show b (8 * s.length + p) = if p < r.1 then r.2 p else q.2 (p - r.1)
      by_cases e : p < r.1
      · rw [if_pos e, h2 _ (by omega)]; exact g3 p e
      · rw [if_neg e]
        have := h1 (p - r.1) (by omega)
        rw [show 8 * s.length + r.1 + (p - r.1) = 8 * s.length + p by omega] at this
        exact this
    by_cases e : q.1 ≤ c
    · refine br_t (nI_le e (by omega)) ?_
      simp (disch := omega) only [nI_clamp, vl_in, forall_eq, true_and]
      exact fin
    · refine br_f (nI_ge (by omega) (by omega)) (br_t (nI_le (a := 8) (hc4 (by omega)) (by omega)) ?_)
      simp (disch := omega) only [nI_clamp, vl_in, forall_eq, true_and]
      exact fin
  · intro k p b hpc h1 h2 h3
    refine br_f (nI_ge (by omega) (by omega)) (br_f (nI_ge (b := 8) (by omega) (by decide)) ?_)
    simp (disch := omega) only [nI_add, nI_clamp, vl_in, forall_eq, true_and, nI_1]
    rw [h2 _ (by omega), f3 p (by omega), ← Nat.add_assoc]
    exact h3
theorem vx_swap {a b : Nat} (ha : a < 48) (hb : b < 48) (hp : post (tc, sc, ob, vc, nt, lc, ic, iz, ki, op, so, bb, upd (upd vC a (vC b)) b (vC a), vS, lC, lS, lP, lK, lT, mC, mS)) : wpX_swapCells post (tc, sc, ob, vc, nt, lc, ic, iz, ki, op, so, bb, vC, vS, lC, lS, lP, lK, lT, mC, mS) (nI a) (nI b) := by
  unfold wpX_swapCells
  simp (disch := omega) only [nI_clamp, vl_in, forall_eq, true_and]
  exact hp
theorem vx_turn {r : vl_rw} (hs : vl_xS vC vS (r :: s)) (hl : s.length + 1 ≤ 6)
    (hp : ∀ C Z, vl_xS C Z ((r.1, fun p => r.2 (r.1 - 1 - p)) :: s) → post (tc, sc, ob, nI (s.length + 1), nt, lc, ic, iz, ki, op, so, bb, C, Z, lC, lS, lP, lK, lT, mC, mS)) : wpX_turnTop post (tc, sc, ob, nI (s.length + 1), nt, lc, ic, iz, ki, op, so, bb, vC, vS, lC, lS, lP, lK, lT, mC, mS) := by
  have hs0 := hs
  obtain ⟨⟨g1, g2, g3⟩, g4⟩ := hs
  unfold wpX_turnTop
  simp (disch := omega) only [nI_pred, nI_clamp, vl_in, forall_eq, true_and, g1, vl_m8, nI_add, vl_d2]
  refine ⟨by decide, r.1 / 2 + 1, vl_turn (W := fun k p b => wX_turnTop_36 post (nI (8 * s.length)) (nI (8 * s.length + r.1) - 1) (nI (r.1 / 2)) k (nI p) tc sc ob (nI (s.length + 1)) nt lc ic iz ki op so bb (b) vS lC lS lP lK lT mC mS) (a := vC) (o := 8 * s.length) (m := r.1) ?_ ?_⟩
  · intro k b h1 h2
    refine br_t (nI_le (Nat.le_refl _) (by omega)) ?_
    refine hp _ _ (vl_xS_top hs0 ?_ (fun j hj => h2 j (Or.inl hj)))
    intro p hpp
    rw [h1 p hpp]
    exact g3 _ (by omega)
  · intro k i b hi h3
    refine br_f (nI_ge hi (by omega)) ?_
    have e : nI (8 * s.length + r.1) - 1 - nI i = nI (8 * s.length + (r.1 - 1 - i)) := by
      rw [vl_sub1 _ (by omega), pk_sub (by omega)]
      exact congrArg nI (by omega)
    rw [e, nI_add]
    refine vx_swap (by omega) (by omega) ?_
    exact nm_r (nI_1 i) h3
theorem vx_scan {r : vl_rw} (hs : vl_xS vC vS (r :: s)) (hl : s.length + 1 ≤ 6)
    (hp : ∀ C Z, vl_xS C Z ((r.1, fun p => vl_sm r.2 (p + 1)) :: s) → post (tc, sc, ob, nI (s.length + 1), nt, lc, ic, iz, ki, op, so, bb, C, Z, lC, lS, lP, lK, lT, mC, mS)) : wpX_scanTop post (tc, sc, ob, nI (s.length + 1), nt, lc, ic, iz, ki, op, so, bb, vC, vS, lC, lS, lP, lK, lT, mC, mS) := by
  have hs0 := hs
  obtain ⟨⟨g1, g2, g3⟩, g4⟩ := hs
  unfold wpX_scanTop
  simp (disch := omega) only [nI_pred, nI_clamp, vl_in, forall_eq, true_and, g1, vl_m8]
  refine ⟨r.1 + 1, vl_scan (W := fun k p b => wX_scanTop_22 post (nI (8 * s.length)) (nI r.1) tc sc ob (nI (s.length + 1)) nt lc k (nI p) ic iz ki op so bb (b) vS lC lS lP lK lT mC mS) (a := vC) (o := 8 * s.length) (m := r.1) ?_ ?_⟩
  · intro k i b hi hi2 h1 h2
    refine br_t (nI_le hi (by omega)) ?_
    refine hp _ _ (vl_xS_top hs0 ?_ (fun j hj => h2 j (Or.inl hj)))
    intro p hpp
    rw [h1 p hpp]
    exact vl_sm_congr (fun q hq => g3 q (by omega))
  · intro k i b hi0 hi h3
    refine br_f (nI_ge hi (by omega)) ?_
    simp (disch := omega) only [nI_add, nI_clamp, vl_in, forall_eq, true_and, nI_1, vl_sub1]
    rw [show 8 * s.length + i - 1 = 8 * s.length + (i - 1) by omega]
    exact h3
theorem vx_sort {r : vl_rw} (hs : vl_xS vC vS (r :: s)) (hl : s.length + 1 ≤ 6)
    (hp : ∀ C Z, vl_xS C Z ((r.1, vl_so r.1 r.2) :: s) → post (tc, sc, ob, nI (s.length + 1), nt, lc, ic, iz, ki, op, so, bb, C, Z, lC, lS, lP, lK, lT, mC, mS)) : wpX_sortTop post (tc, sc, ob, nI (s.length + 1), nt, lc, ic, iz, ki, op, so, bb, vC, vS, lC, lS, lP, lK, lT, mC, mS) := by
  have hs0 := hs
  obtain ⟨⟨g1, g2, g3⟩, g4⟩ := hs
  unfold wpX_sortTop
  simp (disch := omega) only [nI_pred, nI_clamp, vl_in, forall_eq, true_and, g1, vl_m8, nI_add, nI_1]
  refine ⟨r.1 + 1, vl_ins (Wo := fun k c b => wX_sortTop_26 post (nI (8 * s.length)) (nI (8 * s.length + r.1)) k (nI (8 * s.length + c)) tc sc ob (nI (s.length + 1)) nt lc ic iz ki op so bb (b) vS lC lS lP lK lT mC mS)
    (Wi := fun k c q d b => wX_sortTop_36 post (wX_sortTop_26 post (nI (8 * s.length)) (nI (8 * s.length + r.1)) k) (nI (8 * s.length)) (nI (8 * s.length + r.1)) (nI (8 * s.length + c)) q (nI (8 * s.length + d)) tc sc ob (nI (s.length + 1)) nt lc ic iz ki op so bb (b) vS lC lS lP lK lT mC mS)
    (a := vC) (o := 8 * s.length) (m := r.1) ?_ ?_ ?_ ?_⟩
  · intro k c b hc hc2 h1 h2
    refine br_t (nI_le (by omega) (by omega)) ?_
    refine hp _ _ (vl_xS_top hs0 ?_ (fun j hj => h2 j (Or.inl hj)))
    intro p hpp
    refine vl_so_eq (m := r.1) (f := r.2) (g := fun p => b (8 * s.length + p)) ⟨h1.1, ?_⟩ p hpp
    intro v
    rw [h1.2 v]
    exact vl_ct_congr g3
  · intro k c b hc0 hc h3
    exact br_f (nI_ge (by omega) (by omega)) h3
  · intro k c q d b hc0 hc hd hx h3
    by_cases hd0 : d = 0
    · subst hd0
      exact br_t (nI_le (by omega) (by omega)) (nm_r (nI_1 _) h3)
    · rcases hx with hx | ⟨-, hx⟩
      · exact absurd hx hd0
      · refine br_f (nI_ge (by omega) (by omega)) ?_
        rw [vl_sub1 _ (by omega), nI_clamp (by omega), nI_clamp (by omega), show 8 * s.length + d - 1 = 8 * s.length + (d - 1) by omega]
        exact ⟨vp_in_nI (by omega) (by decide), vp_in_nI (by omega) (by decide), br_t hx (nm_r (nI_1 _) h3)⟩
  · intro k c q d b hc0 hc hd hx h3
    refine br_f (nI_ge (by omega) (by omega)) ?_
    rw [show 8 * s.length + (d + 1) = (8 * s.length + d) + 1 from rfl, nI_pred, nI_clamp (by omega), nI_clamp (by omega)]
    refine ⟨vp_in_nI (by omega) (by decide), vp_in_nI (by omega) (by decide), br_f hx ?_⟩
    refine vx_swap (by omega) (by omega) ?_
    exact nm_r (pk_m1 _) h3
end
section
/-! part 13: the component's lanes -/
variable {tc sc ob vc nt lc : Int32} {ic iz ki op so bb vC vS lC lS lP lK lT mC mS : Nat → Int32} {K : Nat → Nat} {s : List vl_rw} {L : List vl_ln} {post : SX → Prop}
theorem vx_bb {post : Int32 → Prop} {k : Nat} (hk : k < 22) (h1 : k = 19 ∨ k = 20 → post 1) (h2 : ¬ (k = 19 ∨ k = 20) → post 0) : wpX_beginsBlock post (tc, sc, ob, vc, nt, lc, ic, iz, ki, op, so, bb, vC, vS, lC, lS, lP, lK, lT, mC, mS) (nI k) := by
  unfold wpX_beginsBlock
  refine pk_eq k 19 (fun e => h1 (Or.inl e)) (fun e => pk_eq k 20 (fun e2 => h1 (Or.inr e2)) (fun e2 => h2 (by omega)))
theorem vx_skip {n : Nat} (hn : n ≤ 40) (hK : ∀ t, t < n → ki t = nI (K t) ∧ K t < 22) : ∀ d t o, t + d = n → o + d ≤ 100 → post (tc, sc, ob, vc, nI (vl_sk K d t o), lc, ic, iz, ki, op, so, bb, vC, vS, lC, lS, lP, lK, lT, mC, mS) → wX_skipBlock_12 post (nI n) tc sc ob vc nt lc ic iz ki op so bb vC vS lC lS lP lK lT mC mS (d + 1) (nI o) (nI t) := by
  intro d
  induction d with
  | zero =>
    intro t o ht ho hp
    exact br_t (nI_le (by omega) (by omega)) hp
  | succ d ih =>
    intro t o ht ho hp
    obtain ⟨e1, e2⟩ := hK t (by omega)
    refine br_f (nI_ge (by omega) (by omega)) ?_
    cases o with
    | zero => exact br_t (by decide) hp
    | succ o =>
      refine br_f (nI_nle (by omega) (by omega)) ⟨vp_in_nI (by omega) (by decide), ?_⟩
      rw [nI_clamp (by omega), e1]
      have hp : post (tc, sc, ob, vc, nI (vl_sk K d (t + 1) (if K t = 19 ∨ K t = 20 then o + 2 else if K t = 21 then o else o + 1)), lc, ic, iz, ki, op, so, bb, vC, vS, lC, lS, lP, lK, lT, mC, mS) := hp
      refine vx_bb e2 ?_ ?_
      · intro hk
        rw [if_pos hk] at hp
        exact br_f (by decide) (nm_r (nI_1 _) (nm_r (nI_1 _) (ih (t + 1) (o + 2) (by omega) (by omega) hp)))
      · intro hk
        rw [if_neg hk] at hp
        refine br_t rfl ⟨vp_in_nI (by omega) (by decide), ?_⟩
        refine pk_eq (K t) 21 ?_ ?_
        · intro hk2
          rw [if_pos hk2] at hp
          exact nm_r (pk_m1 o) (nm_r (nI_1 _) (ih (t + 1) o (by omega) (by omega) hp))
        · intro hk2
          rw [if_neg hk2] at hp
          exact nm_r (nI_1 _) (ih (t + 1) (o + 1) (by omega) (by omega) hp)
theorem vx_begin0 {n t : Nat} {a : Int32} {r : vl_rw} (hn : n ≤ 40) (hK : ∀ t, t < n → ki t = nI (K t) ∧ K t < 22) (ht : t + 1 ≤ n) (hs : vl_xS vC vS (r :: s)) (hl : s.length + 1 ≤ 6) (h0 : r.1 = 0)
    (hp : post (nI n, sc, ob, nI (s.length + 1), nI (vl_E K n (t + 1) 1), lc, ic, iz, ki, op, so, bb, vC, vS, lC, lS, lP, lK, lT, mC, mS)) : wpX_beginLane post (nI n, sc, ob, nI (s.length + 1), nI (t + 1), lc, ic, iz, ki, op, so, bb, vC, vS, lC, lS, lP, lK, lT, mC, mS) a := by
  obtain ⟨⟨g1, g2, g3⟩, g4⟩ := hs
  unfold wpX_beginLane
  simp (disch := omega) only [nI_pred, nI_clamp, vl_in, forall_eq, true_and, g1]
  refine br_t (by rw [h0]; rfl) ?_
  unfold wpX_skipBlock
  exact ⟨n - (t + 1) + 1, vx_skip hn hK (n - (t + 1)) (t + 1) 1 (by omega) (by omega) hp⟩
theorem vx_begin1 {t k : Nat} {r : vl_rw} (hs : vl_xS vC vS (r :: s)) (hL : vl_xL K lC lS lP lK lT mC mS L) (hl : s.length + 1 ≤ 6) (hL2 : L.length < 2) (h0 : ¬ r.1 = 0) (hk : K t = k)
    (hp : ∀ a1 a2 a3 a4 a5 a7, vl_xL K a1 a2 a3 a4 a5 mC a7 ((t, r.1, r.2, 0, 0, fun _ => 0) :: L) → post (tc, sc, ob, nI s.length, nI (t + 1), nI (L.length + 1), ic, iz, ki, op, so, bb, vC, vS, a1, a2, a3, a4, a5, mC, a7)) :
    wpX_beginLane post (tc, sc, ob, nI (s.length + 1), nI (t + 1), nI L.length, ic, iz, ki, op, so, bb, vC, vS, lC, lS, lP, lK, lT, mC, mS) (nI k) := by
  obtain ⟨⟨g1, g2, g3⟩, g4⟩ := hs
  unfold wpX_beginLane
  simp (disch := omega) only [nI_pred, nI_clamp, vl_in, forall_eq, true_and, g1]
  refine br_f (by rw [vl_z (by omega)]; exact h0) ?_
  refine ⟨r.1 + 1, vl_copy (W := fun q p b => wX_beginLane_32 post (nI k) (nI s.length) (nI r.1) (nI L.length) tc sc ob (nI (s.length + 1)) (nI (t + 1)) (nI L.length) q (nI p) ic iz ki op so bb vC vS (b) lS lP lK lT mC mS) (src := r.2) (a := lC) (o := 8 * L.length) (c := r.1) ?_ ?_⟩
  · intro q b h1 h2
    refine br_t (nI_le (Nat.le_refl _) (by omega)) ?_
    simp (disch := omega) only [nI_clamp, vl_in, forall_eq, true_and, nI_1, nI_pred]
    refine hp _ _ _ _ _ _ ⟨⟨⟨g2, by omega, Nat.le_refl _⟩, pk_us, pk_us, by rw [pk_us, hk], pk_us, pk_us, h1, fun p hpp => by omega⟩, ?_⟩
    exact vl_xL_congr hL (fun j hj => h2 j (Or.inl hj)) (fun j hj => pk_un (by omega)) (fun j hj => pk_un (by omega)) (fun j hj => pk_un (by omega)) (fun j hj => pk_un (by omega)) (fun j hj => rfl) (fun j hj => pk_un (by omega))
  · intro q p b hpc h1 h2 h3
    refine br_f (nI_ge hpc (by omega)) ?_
    simp (disch := omega) only [vl_m8, nI_add, nI_clamp, vl_in, forall_eq, true_and, nI_1]
    rw [g3 p hpc]
    exact h3
theorem vx_add {j c : Nat} {v : Int32} (hj : j < 2) (hc : c < 8) (hM : mS j = nI c) (hp : post (tc, sc, ob, vc, nt, lc, ic, iz, ki, op, so, bb, vC, vS, lC, lS, lP, lK, lT, upd mC (8 * j + c) v, upd mS j (nI (c + 1)))) : wpX_addMade post (tc, sc, ob, vc, nt, lc, ic, iz, ki, op, so, bb, vC, vS, lC, lS, lP, lK, lT, mC, mS) (nI j) v := by
  unfold wpX_addMade
  simp (disch := omega) only [nI_clamp, hM, vl_m8, nI_add, vl_in, forall_eq, true_and, nI_1]
  exact hp
theorem vx_endLane {j c : Nat} {g : Nat → Int32} (hj : j < 2) (hc : c ≤ 8) (hM : mS j = nI c) (hG : ∀ p, p < c → mC (8 * j + p) = g p) (hs : vl_xS vC vS s) (hl : s.length < 6)
    (hp : ∀ C Z, vl_xS C Z ((c, g) :: s) → post (tc, sc, ob, nI (s.length + 1), nt, nI j, ic, iz, ki, op, so, bb, C, Z, lC, lS, lP, lK, lT, mC, mS)) : wpX_endLane post (tc, sc, ob, nI s.length, nt, nI (j + 1), ic, iz, ki, op, so, bb, vC, vS, lC, lS, lP, lK, lT, mC, mS) (nI j) := by
  unfold wpX_endLane
  simp (disch := omega) only [nI_clamp, hM, vl_m8, vl_in, forall_eq, true_and]
  refine ⟨c + 1, vl_copy (W := fun q p b => wX_endLane_18 post (nI j) (nI (8 * s.length)) (nI c) tc sc ob (nI s.length) nt (nI (j + 1)) q (nI p) ic iz ki op so bb (b) vS lC lS lP lK lT mC mS) (src := g) (a := vC) (o := 8 * s.length) (c := c) ?_ ?_⟩
  · intro q b h1 h2
    refine br_t (nI_le (Nat.le_refl _) (by omega)) ?_
    simp (disch := omega) only [nI_clamp, vl_in, forall_eq, true_and, nI_1, nI_pred]
    exact hp _ _ (vl_xS_push hs hc pk_us h1 (fun j hj => h2 j (Or.inl hj)) (fun j hj => pk_un (by omega)))
  · intro q p b hpc h1 h2 h3
    refine br_f (nI_ge hpc (by omega)) ?_
    simp (disch := omega) only [vl_m8, nI_add, nI_clamp, vl_in, forall_eq, true_and, nI_1]
    rw [hG p hpc]
    exact h3
theorem vx_ep48 {b m e c : Nat} {f g : Nat → Int32} (hL2 : L.length < 2) (hL : vl_xL K lC lS lP lK lT mC mS L) (q1 : lS L.length = nI m) (q2 : lP L.length = nI e) (q3 : lK L.length = nI (K b)) (q4 : lT L.length = nI (b + 1))
    (q5 : mS L.length = nI c) (q6 : ∀ p, p < m → lC (8 * L.length + p) = f p) (q7 : ∀ p, p < c → mC (8 * L.length + p) = g p) (hm : m ≤ 8) (he : e < m) (hc : c ≤ e + 1) (hs : vl_xS vC vS s) (hl : s.length < 6)
    (h1 : e + 1 < m → ∀ P, vl_xL K lC lS P lK lT mC mS ((b, m, f, e + 1, c, g) :: L) → post (tc, sc, ob, nI s.length, nI (b + 1), nI (L.length + 1), ic, iz, ki, op, so, bb, vC, vS, lC, lS, P, lK, lT, mC, mS))
    (h2 : ¬ e + 1 < m → ∀ C Z P, vl_xS C Z ((c, g) :: s) → vl_xL K lC lS P lK lT mC mS L → post (tc, sc, ob, nI (s.length + 1), nt, nI L.length, ic, iz, ki, op, so, bb, C, Z, lC, lS, P, lK, lT, mC, mS)) :
    wX_endPass_48 post (nI L.length) tc sc ob (nI s.length) nt (nI (L.length + 1)) ic iz ki op so bb vC vS lC lS lP lK lT mC mS := by
  unfold wX_endPass_48
  simp (disch := omega) only [nI_clamp, vl_in, forall_eq, true_and, q2, nI_1, pk_us, q1, q4]
  have hL' : vl_xL K lC lS (upd lP L.length (nI (e + 1))) lK lT mC mS L := vl_xL_congr hL (fun _ _ => rfl) (fun _ _ => rfl) (fun j hj => pk_un (by omega)) (fun _ _ => rfl) (fun _ _ => rfl) (fun _ _ => rfl) (fun _ _ => rfl)
  refine pk_le m (e + 1) ?_ ?_ rfl rfl (by omega) (by omega)
  · intro hz
    exact vx_endLane hL2 (by omega) q5 q7 hs hl (fun C Z hx => h2 (by omega) C Z _ hx hL')
  · intro hz
    exact h1 hz _ ⟨⟨⟨hm, hz, hc⟩, q1, pk_us, q3, q4, q5, q6, q7⟩, hL'⟩
theorem vx_endPass {b m e c : Nat} {f g : Nat → Int32} {v : vl_rw} (hs : vl_xS vC vS (v :: s)) (hv : v.1 = 1) (hL : vl_xL K lC lS lP lK lT mC mS ((b, m, f, e, c, g) :: L)) (hK : K b = 19 ∨ K b = 20) (hl : s.length < 6) (hL2 : L.length < 2)
    (h1 : e + 1 < m → ∀ P M Q, vl_xL K lC lS P lK lT M Q ((b, m, f, e + 1, (vl_mk K b c f g e (v.2 0)).1, (vl_mk K b c f g e (v.2 0)).2) :: L) → post (tc, sc, ob, nI s.length, nI (b + 1), nI (L.length + 1), ic, iz, ki, op, so, bb, vC, vS, lC, lS, P, lK, lT, M, Q))
    (h2 : ¬ e + 1 < m → ∀ C Z P M Q, vl_xS C Z (vl_mk K b c f g e (v.2 0) :: s) → vl_xL K lC lS P lK lT M Q L → post (tc, sc, ob, nI (s.length + 1), nt, nI L.length, ic, iz, ki, op, so, bb, C, Z, lC, lS, P, lK, lT, M, Q)) :
    wpX_endPass post (tc, sc, ob, nI (s.length + 1), nt, nI (L.length + 1), ic, iz, ki, op, so, bb, vC, vS, lC, lS, lP, lK, lT, mC, mS) := by
  have e0 : vC (8 * s.length) = v.2 0 := vl_xS_0 hs hv
  have hL0 := hL
  obtain ⟨⟨⟨b1, b2, b3⟩, q1, q2, q3, q4, q5, q6, q7⟩, hL'⟩ := hL
  -- a value made
  have made : ∀ w, vl_mk K b c f g e (v.2 0) = (c + 1, upd g c w) → wpX_addMade (fun u => match u with | (tc, sc, ob, vc, nt, lc, ic, iz, ki, op, so, bb, vC, vS, lC, lS, lP, lK, lT, mC, mS) => wX_endPass_48 post (nI L.length) tc sc ob vc nt lc ic iz ki op so bb vC vS lC lS lP lK lT mC mS) (tc, sc, ob, nI s.length, nt, nI (L.length + 1), ic, iz, ki, op, so, bb, vC, vS, lC, lS, lP, lK, lT, mC, mS) (nI L.length) w := by
    intro w ew
    rw [ew] at h1 h2
    refine vx_add hL2 (by omega) q5 ?_
    refine vx_ep48 (c := c + 1) (g := upd g c w) hL2 ?_ q1 q2 q3 q4 pk_us q6 ?_ b1 b2 (by omega) hs.2 hl (fun hz P hx => h1 hz P _ _ hx) (fun hz C Z P hx hy => h2 hz C Z P _ _ hx hy)
    · exact vl_xL_congr hL' (fun _ _ => rfl) (fun _ _ => rfl) (fun _ _ => rfl) (fun _ _ => rfl) (fun _ _ => rfl) (fun j hj => pk_un (by omega)) (fun j hj => pk_un (by omega))
    · intro p hp
      by_cases ep : p = c
      · subst ep; rw [pk_us, pk_us]
      · rw [pk_un (by omega), pk_un ep]; exact q7 p (by omega)
  unfold wpX_endPass
  simp (disch := omega) only [nI_pred, forall_eq]
  refine vx_pop (h := s.length) (by omega) ?_
  dsimp only
  rw [e0]
  refine ⟨vp_in_nI hL2 (by decide), ?_⟩
  rw [nI_clamp (by omega), q3]
  refine pk_eq (K b) 19 ?_ ?_
  · intro hk
    exact made (v.2 0) (by unfold vl_mk; rw [if_neg (by omega), if_neg (by omega)])
  · intro hk
    have hk : K b = 20 := by omega
    refine br_c ?_ ?_
    · intro z
      have ew : vl_mk K b c f g e (v.2 0) = (c, g) := by unfold vl_mk; rw [if_pos ⟨hk, z⟩]
      rw [ew] at h1 h2
      exact vx_ep48 (c := c) (g := g) hL2 hL' q1 q2 q3 q4 q5 q6 q7 b1 b2 (by omega) hs.2 hl (fun hz P hx => h1 hz P _ _ hx) (fun hz C Z P hx hy => h2 hz C Z P _ _ hx hy)
    · intro z
      refine vx_elem hL0 (i := L.length) (by rw [List.length_cons]; omega) (by rw [List.length_cons]; omega) ?_
      have ee : vl_el ((b, m, f, e, c, g) :: L) L.length = f e := if_pos rfl
      rw [ee]
      exact made (f e) (by unfold vl_mk; rw [if_neg (fun w => z w.2), if_pos hk])
end
section
/-! part 14: the component's token, and its loop over the tokens -/
variable {tc sc ob vc nt lc : Int32} {ic iz ki op so bb vC vS lC lS lP lK lT mC mS : Nat → Int32} {K : Nat → Nat} {s : List vl_rw} {L : List vl_ln} {post : SX → Prop} {zs : Nat → Nat} {inp : Nat → Nat → Int32}
def vx_in (ic iz : Nat → Int32) (zs : Nat → Nat) (inp : Nat → Nat → Int32) : Prop := ∀ i, i < 3 → iz i = nI (zs i) ∧ zs i ≤ 8 ∧ ∀ p, p < zs i → ic (8 * i + p) = inp i p
theorem vx_simple {k : Nat} {a : Int32} {S F : List Nat} (ho : vl_ok k a (S, F)) (k1 : k < 19) (hT : vl_TY S s) (h6 : S.length ≤ 6) (hF : L.length = F.length) (hF2 : F.length ≤ 2)
    (hs : vl_xS vC vS s) (hL : vl_xL K lC lS lP lK lT mC mS L) (hi : vx_in ic iz zs inp)
    (hp : ∀ C Z, vl_xS C Z (vl_ap zs inp L a k s) → post (tc, sc, ob, nI (vl_ap zs inp L a k s).length, nt, lc, ic, iz, ki, op, so, bb, C, Z, lC, lS, lP, lK, lT, mC, mS)) : wpX_runToken post (tc, sc, ob, nI s.length, nt, lc, ic, iz, ki, op, so, bb, vC, vS, lC, lS, lP, lK, lT, mC, mS) (nI k) a := by
  obtain ⟨o1, o2, ⟨o3, -⟩, o4, o5⟩ := ho
  obtain ⟨R, e, hb, -⟩ := vl_ss_ok o2
  have h6' : s.length ≤ 6 := by rw [vl_TYl hT]; exact h6
  subst e
  have c : k = 0 ∨ k = 1 ∨ k = 2 ∨ k = 3 ∨ k = 4 ∨ k = 5 ∨ k = 6 ∨ k = 7 ∨ k = 8 ∨ k = 9 ∨ k = 10 ∨ k = 11 ∨ k = 12 ∨ k = 13 ∨ k = 14 ∨ k = 15 ∨ k = 16 ∨ k = 17 ∨ k = 18 := by omega
  unfold wpX_runToken
  rcases c with rfl | rfl | rfl | rfl | rfl | rfl | rfl | rfl | rfl | rfl | rfl | rfl | rfl | rfl | rfl | rfl | rfl | rfl | rfl
  · refine br_f (by decide) (br_f (by decide) (br_t (by decide) ?_))
    have o3 : (vl_nd 0 ++ R).length < 6 := o3 (by omega)
    refine vx_push (by rw [vl_TYl hT]; exact o3) ?_
    exact hp _ _ (vl_xS_num hs)
  · refine br_f (by decide) (br_f (by decide) (br_f (by decide) (br_t (by decide) ?_)))
    have o3 : (vl_nd 1 ++ R).length < 6 := o3 (by omega)
    obtain ⟨i, h3, rfl⟩ := o4 rfl
    obtain ⟨z1, z2, z3⟩ := hi i h3
    refine vx_pushInput (by rw [vl_TYl hT]; exact o3) h3 z2 z1 ?_
    intro b h1 h2
    have ea : vl_ap zs inp L (nI i) 1 s = (zs i, inp i) :: s := by
      show (zs (nI i).toNatClampNeg, inp (nI i).toNatClampNeg) :: s = _
      rw [nI_clamp (by omega)]
    rw [ea] at hp
    exact hp _ _ (vl_xS_push hs z2 pk_us (fun p hpp => (h1 p hpp).trans (z3 p hpp)) (fun j hj => h2 j (Or.inl hj)) (fun j hj => pk_un (by omega)))
  · refine br_f (by decide) (br_f (by decide) (br_f (by decide) (br_f (by decide) (br_t (by decide) ?_))))
    have o3 : (vl_nd 2 ++ R).length < 6 := o3 (by omega)
    obtain ⟨i, h3, rfl⟩ := o5 rfl
    have h3 : i < F.length := h3
    unfold wpX_pushElement
    refine vx_elem hL (i := i) (by omega) (by omega) ?_
    refine vx_push (by rw [vl_TYl hT]; exact o3) ?_
    have ea : vl_ap zs inp L (nI i) 2 s = (1, fun _ => vl_el L i) :: s := by
      show (1, fun _ => vl_el L (nI i).toNatClampNeg) :: s = _
      rw [nI_clamp (by omega)]
    rw [ea] at hp
    exact hp _ _ (vl_xS_num hs)
  · refine br_f (by decide) (br_f (by decide) (br_f (by decide) (br_f (by decide) (br_f (by decide) (br_t (by decide) ?_)))))
    obtain ⟨m, s, rfl, -, t1, hT⟩ := vl_TYc hT
    obtain ⟨n, s, rfl, -, t2, hT⟩ := vl_TYc hT
    unfold wX_runToken_200
    exact vx_pair (k := 3) (by omega) (by omega) hs (t1 rfl) (t2 rfl) h6' hp
  · refine br_f (by decide) (br_f (by decide) (br_f (by decide) (br_f (by decide) (br_f (by decide) (br_f (by decide) (br_t (by decide) ?_))))))
    obtain ⟨m, s, rfl, -, t1, hT⟩ := vl_TYc hT
    obtain ⟨n, s, rfl, -, t2, hT⟩ := vl_TYc hT
    unfold wX_runToken_200
    exact vx_pair (k := 4) (by omega) (by omega) hs (t1 rfl) (t2 rfl) h6' hp
  · refine br_f (by decide) (br_f (by decide) (br_f (by decide) (br_f (by decide) (br_f (by decide) (br_f (by decide) (br_f (by decide) (br_t (by decide) ?_)))))))
    obtain ⟨m, s, rfl, -, t1, hT⟩ := vl_TYc hT
    obtain ⟨n, s, rfl, -, t2, hT⟩ := vl_TYc hT
    unfold wX_runToken_200
    exact vx_pair (k := 5) (by omega) (by omega) hs (t1 rfl) (t2 rfl) h6' hp
  · refine br_f (by decide) (br_f (by decide) (br_f (by decide) (br_f (by decide) (br_f (by decide) (br_f (by decide) (br_f (by decide) (br_f (by decide) (br_t (by decide) ?_))))))))
    obtain ⟨m, s, rfl, -, t1, hT⟩ := vl_TYc hT
    obtain ⟨n, s, rfl, -, t2, hT⟩ := vl_TYc hT
    unfold wX_runToken_200
    exact vx_pair (k := 6) (by omega) (by omega) hs (t1 rfl) (t2 rfl) h6' hp
  · refine br_f (by decide) (br_f (by decide) (br_f (by decide) (br_f (by decide) (br_f (by decide) (br_f (by decide) (br_f (by decide) (br_f (by decide) (br_f (by decide) (br_t (by decide) ?_)))))))))
    obtain ⟨m, s, rfl, -, t1, hT⟩ := vl_TYc hT
    obtain ⟨n, s, rfl, -, t2, hT⟩ := vl_TYc hT
    unfold wX_runToken_200
    exact vx_pair (k := 7) (by omega) (by omega) hs (t1 rfl) (t2 rfl) h6' hp
  · refine br_f (by decide) (br_f (by decide) (br_f (by decide) (br_f (by decide) (br_f (by decide) (br_f (by decide) (br_f (by decide) (br_f (by decide) (br_f (by decide) (br_f (by decide) (br_t (by decide) ?_))))))))))
    obtain ⟨m, s, rfl, -, t1, hT⟩ := vl_TYc hT
    obtain ⟨n, s, rfl, -, t2, hT⟩ := vl_TYc hT
    unfold wX_runToken_200
    exact vx_pair (k := 8) (by omega) (by omega) hs (t1 rfl) (t2 rfl) h6' hp
  · refine br_f (by decide) (br_f (by decide) (br_f (by decide) (br_f (by decide) (br_f (by decide) (br_f (by decide) (br_f (by decide) (br_f (by decide) (br_f (by decide) (br_f (by decide) (br_f (by decide) (br_t (by decide) ?_)))))))))))
    obtain ⟨m, s, rfl, -, t1, hT⟩ := vl_TYc hT
    obtain ⟨n, s, rfl, -, t2, hT⟩ := vl_TYc hT
    obtain ⟨q, s, rfl, -, t3, hT⟩ := vl_TYc hT
    exact vx_pick hs (t1 rfl) (t2 rfl) (t3 rfl) h6' hp
  · refine br_f (by decide) (br_f (by decide) (br_f (by decide) (br_f (by decide) (br_f (by decide) (br_f (by decide) (br_f (by decide) (br_f (by decide) (br_f (by decide) (br_f (by decide) (br_f (by decide) (br_f (by decide) (br_t (by decide) ?_))))))))))))
    obtain ⟨r, s, rfl, -, -, hT⟩ := vl_TYc hT
    unfold wX_runToken_135
    exact vx_meas (k := 10) (by omega) hs h6' hp
  · refine br_f (by decide) (br_f (by decide) (br_f (by decide) (br_f (by decide) (br_f (by decide) (br_f (by decide) (br_f (by decide) (br_f (by decide) (br_f (by decide) (br_f (by decide) (br_f (by decide) (br_f (by decide) (br_f (by decide) (br_t (by decide) ?_)))))))))))))
    obtain ⟨r, s, rfl, -, -, hT⟩ := vl_TYc hT
    unfold wX_runToken_135
    exact vx_meas (k := 11) (by omega) hs h6' hp
  · refine br_f (by decide) (br_f (by decide) (br_f (by decide) (br_f (by decide) (br_f (by decide) (br_f (by decide) (br_f (by decide) (br_f (by decide) (br_f (by decide) (br_f (by decide) (br_f (by decide) (br_f (by decide) (br_f (by decide) (br_f (by decide) (br_t (by decide) ?_))))))))))))))
    obtain ⟨r, s, rfl, -, -, hT⟩ := vl_TYc hT
    unfold wX_runToken_135
    exact vx_meas (k := 12) (by omega) hs h6' hp
  · refine br_f (by decide) (br_f (by decide) (br_f (by decide) (br_f (by decide) (br_f (by decide) (br_f (by decide) (br_f (by decide) (br_f (by decide) (br_f (by decide) (br_f (by decide) (br_f (by decide) (br_f (by decide) (br_f (by decide) (br_f (by decide) (br_f (by decide) (br_t (by decide) ?_)))))))))))))))
    obtain ⟨m, s, rfl, -, t1, hT⟩ := vl_TYc hT
    obtain ⟨n, s, rfl, -, -, hT⟩ := vl_TYc hT
    exact vx_at hs (t1 rfl) h6' hp
  · refine br_f (by decide) (br_f (by decide) (br_f (by decide) (br_f (by decide) (br_f (by decide) (br_f (by decide) (br_f (by decide) (br_f (by decide) (br_f (by decide) (br_f (by decide) (br_f (by decide) (br_f (by decide) (br_f (by decide) (br_f (by decide) (br_f (by decide) (br_f (by decide) (br_t (by decide) ?_))))))))))))))))
    obtain ⟨m, s, rfl, -, t1, hT⟩ := vl_TYc hT
    exact vx_upto hs (t1 rfl) h6' hp
  · refine br_f (by decide) (br_f (by decide) (br_f (by decide) (br_f (by decide) (br_f (by decide) (br_f (by decide) (br_f (by decide) (br_f (by decide) (br_f (by decide) (br_f (by decide) (br_f (by decide) (br_f (by decide) (br_f (by decide) (br_f (by decide) (br_f (by decide) (br_f (by decide) (br_f (by decide) (br_t (by decide) ?_)))))))))))))))))
    obtain ⟨m, s, rfl, -, -, hT⟩ := vl_TYc hT
    obtain ⟨n, s, rfl, -, -, hT⟩ := vl_TYc hT
    exact vx_join hs h6' hp
  · refine br_f (by decide) (br_f (by decide) (br_f (by decide) (br_f (by decide) (br_f (by decide) (br_f (by decide) (br_f (by decide) (br_f (by decide) (br_f (by decide) (br_f (by decide) (br_f (by decide) (br_f (by decide) (br_f (by decide) (br_f (by decide) (br_f (by decide) (br_f (by decide) (br_f (by decide) (br_f (by decide) (br_t (by decide) ?_))))))))))))))))))
    obtain ⟨m, s, rfl, -, -, hT⟩ := vl_TYc hT
    exact vx_turn hs h6' hp
  · refine br_f (by decide) (br_f (by decide) (br_f (by decide) (br_f (by decide) (br_f (by decide) (br_f (by decide) (br_f (by decide) (br_f (by decide) (br_f (by decide) (br_f (by decide) (br_f (by decide) (br_f (by decide) (br_f (by decide) (br_f (by decide) (br_f (by decide) (br_f (by decide) (br_f (by decide) (br_f (by decide) (br_f (by decide) (br_t (by decide) ?_)))))))))))))))))))
    obtain ⟨m, s, rfl, -, -, hT⟩ := vl_TYc hT
    exact vx_scan hs h6' hp
  · refine br_f (by decide) (br_f (by decide) (br_f (by decide) (br_f (by decide) (br_f (by decide) (br_f (by decide) (br_f (by decide) (br_f (by decide) (br_f (by decide) (br_f (by decide) (br_f (by decide) (br_f (by decide) (br_f (by decide) (br_f (by decide) (br_f (by decide) (br_f (by decide) (br_f (by decide) (br_f (by decide) (br_f (by decide) (br_f (by decide) (br_t (by decide) ?_))))))))))))))))))))
    obtain ⟨m, s, rfl, -, -, hT⟩ := vl_TYc hT
    exact vx_sort hs h6' hp
/-- the component's working state stands for D -/
def vx_R (K : Nat → Nat) (D : vl_D) (vc nt lc : Int32) (vC vS lC lS lP lK lT mC mS : Nat → Int32) : Prop :=
  (vc = nI D.2.1.length ∧ nt = nI D.1 ∧ lc = nI D.2.2.length) ∧ vl_xS vC vS D.2.1 ∧ vl_xL K lC lS lP lK lT mC mS D.2.2
theorem vx_step {n t : Nat} (h : vl_PG K op n) (hn40 : n ≤ 40) (hn : (vl_st K n).2 = []) (hK : ∀ t, t < n → ki t = nI (K t)) (hi : vx_in ic iz zs inp) (ht : t < n) (hD : vl_DI K n (t, s, L))
    (hs : vl_xS vC vS s) (hL : vl_xL K lC lS lP lK lT mC mS L)
    (hp : ∀ vc nt lc vC vS lC lS lP lK lT mC mS, vx_R K (vl_mv K op n zs inp t s L) vc nt lc vC vS lC lS lP lK lT mC mS → post (nI n, sc, ob, vc, nt, lc, ic, iz, ki, op, so, bb, vC, vS, lC, lS, lP, lK, lT, mC, mS)) :
    wpX_runToken post (nI n, sc, ob, nI s.length, nI (t + 1), nI L.length, ic, iz, ki, op, so, bb, vC, vS, lC, lS, lP, lK, lT, mC, mS) (nI (K t)) (op t) := by
  have hb := vl_bd h t (by omega)
  have hT : vl_TY (vl_st K t).1 s := hD.2.1
  have hLl : L.length = (vl_st K t).2.length := vl_LI_len hD.2.2
  have h6 : s.length ≤ 6 := by rw [vl_TYl hT]; exact hb.1
  have ho := h t ht
  by_cases k1 : K t = 19 ∨ K t = 20
  · obtain ⟨r, s', rfl, h8, hL2, -, -⟩ := vl_mv_b h hn ht hD k1
    rw [List.length_cons] at h6
    unfold wpX_runToken
    have go : wX_runToken_185 post (nI (K t)) (nI n) sc ob (nI (s'.length + 1)) (nI (t + 1)) (nI L.length) ic iz ki op so bb vC vS lC lS lP lK lT mC mS := by
      unfold wX_runToken_185
      by_cases h0 : r.1 = 0
      · have e : vl_mv K op n zs inp t (r :: s') L = (vl_E K n (t + 1) 1, r :: s', L) := by
          unfold vl_mv
          rw [if_pos k1]
          exact if_pos h0
        rw [e] at hp
        exact vx_begin0 hn40 (fun t ht => ⟨hK t ht, (h t ht).1⟩) (by omega) hs h6 h0 (hp _ _ _ _ _ _ _ _ _ _ _ _ ⟨⟨rfl, rfl, rfl⟩, hs, hL⟩)
      · have e : vl_mv K op n zs inp t (r :: s') L = (t + 1, s', (t, r.1, r.2, 0, 0, fun _ => 0) :: L) := by
          unfold vl_mv
          rw [if_pos k1]
          exact if_neg h0
        rw [e] at hp
        exact vx_begin1 hs hL h6 hL2 h0 rfl (fun a1 a2 a3 a4 a5 a7 hx => hp _ _ _ _ _ _ _ _ _ _ _ _ ⟨⟨rfl, rfl, rfl⟩, hs.2, hx⟩)
    rcases k1 with k1 | k1
    · rw [k1] at go ⊢
      refine br_f (by decide) (br_f (by decide) (br_f (by decide) (br_f (by decide) (br_f (by decide) (br_f (by decide) (br_f (by decide) (br_f (by decide) (br_f (by decide) (br_f (by decide) (br_f (by decide) (br_f (by decide) (br_f (by decide) (br_f (by decide) (br_f (by decide) (br_f (by decide) (br_f (by decide) (br_f (by decide) (br_f (by decide) (br_f (by decide) (br_f (by decide) (br_t (by decide) ?_)))))))))))))))))))))
      exact go
    · rw [k1] at go ⊢
      refine br_f (by decide) (br_f (by decide) (br_f (by decide) (br_f (by decide) (br_f (by decide) (br_f (by decide) (br_f (by decide) (br_f (by decide) (br_f (by decide) (br_f (by decide) (br_f (by decide) (br_f (by decide) (br_f (by decide) (br_f (by decide) (br_f (by decide) (br_f (by decide) (br_f (by decide) (br_f (by decide) (br_f (by decide) (br_f (by decide) (br_f (by decide) (br_f (by decide) (br_t (by decide) ?_))))))))))))))))))))))
      exact go
  · by_cases k2 : K t = 21
    · obtain ⟨v, s', b, m, f, e, c, g, L', rfl, hv, rfl, ⟨b1, b2, b3⟩, -, -⟩ := vl_mv_e h ht hD k2
      rw [List.length_cons] at h6 hLl
      have hb2 := hb.2
      unfold wpX_runToken
      rw [k2]
      refine br_f (by decide) (br_f (by decide) (br_f (by decide) (br_f (by decide) (br_f (by decide) (br_f (by decide) (br_f (by decide) (br_f (by decide) (br_f (by decide) (br_f (by decide) (br_f (by decide) (br_f (by decide) (br_f (by decide) (br_f (by decide) (br_f (by decide) (br_f (by decide) (br_f (by decide) (br_f (by decide) (br_f (by decide) (br_f (by decide) (br_f (by decide) (br_f (by decide) (br_f (by decide) (br_t (by decide) ?_)))))))))))))))))))))))
      refine vx_endPass hs hv hL b2 (by omega) (by omega) ?_ ?_
      · intro h0 P M Q hx
        have e : vl_mv K op n zs inp t (v :: s') ((b, m, f, e, c, g) :: L') = (b + 1, s', (b, m, f, e + 1, (vl_mk K b c f g e (v.2 0)).1, (vl_mk K b c f g e (v.2 0)).2) :: L') := by
          unfold vl_mv
          rw [if_neg k1, if_pos k2]
          exact if_pos h0
        rw [e] at hp
        exact hp _ _ _ _ _ _ _ _ _ _ _ _ ⟨⟨rfl, rfl, rfl⟩, hs.2, hx⟩
      · intro h0 C Z P M Q hx hy
        have e : vl_mv K op n zs inp t (v :: s') ((b, m, f, e, c, g) :: L') = (t + 1, vl_mk K b c f g e (v.2 0) :: s', L') := by
          unfold vl_mv
          rw [if_neg k1, if_pos k2]
          exact if_neg h0
        rw [e] at hp
        exact hp _ _ _ _ _ _ _ _ _ _ _ _ ⟨⟨rfl, rfl, rfl⟩, hx, hy⟩
    · have e : vl_mv K op n zs inp t s L = (t + 1, vl_ap zs inp L (op t) (K t) s, L) := by
        unfold vl_mv
        rw [if_neg k1, if_neg k2]
      rw [e] at hp
      have h22 := ho.1
      refine vx_simple (S := (vl_st K t).1) (F := (vl_st K t).2) ho (by omega) hT hb.1 hLl hb.2 hs hL hi ?_
      intro C Z hx
      exact hp _ _ _ _ _ _ _ _ _ _ _ _ ⟨⟨rfl, rfl, rfl⟩, hx, hL⟩
theorem vx_loop {n : Nat} (h : vl_PG K op n) (hn40 : n ≤ 40) (hn : (vl_st K n).2 = []) (hK : ∀ t, t < n → ki t = nI (K t)) (hz : ∀ i, i < 3 → zs i ≤ 8) (hi : vx_in ic iz zs inp) :
    ∀ f q D, vl_DI K n D → vl_pt K n D.2.2 D.1 ≤ f → q + f ≤ 2560 → ∀ vc nt lc vC vS lC lS lP lK lT mC mS, vx_R K D vc nt lc vC vS lC lS lP lK lT mC mS →
    (∀ vc nt lc vC vS lC lS lP lK lT mC mS, vx_R K (vl_run K op n zs inp f D) vc nt lc vC vS lC lS lP lK lT mC mS → post (nI n, sc, ob, vc, nt, lc, ic, iz, ki, op, so, bb, vC, vS, lC, lS, lP, lK, lT, mC, mS)) →
    wX_workOut_17 post (f + 1) (nI q) (nI n) sc ob vc nt lc ic iz ki op so bb vC vS lC lS lP lK lT mC mS := by
  intro f
  induction f with
  | zero =>
    intro q D hD hp hq vc nt lc vC vS lC lS lP lK lT mC mS hR hpost
    obtain ⟨t, s, L⟩ := D
    have ht : ¬ t < n := fun ht => by
      have h1 := (vl_mv_ok (zs := zs) (inp := inp) h hn hz ht hD).2
      have h2 : vl_pt K n L t ≤ 0 := hp
      omega
    have ht2 : t ≤ n := hD.1
    obtain ⟨⟨rfl, rfl, rfl⟩, h3, h4⟩ := hR
    refine pk_le 2560 q ?_ ?_ rfl rfl (by omega) (by omega)
    · intro _
      exact hpost _ _ _ _ _ _ _ _ _ _ _ _ ⟨⟨rfl, rfl, rfl⟩, h3, h4⟩
    · intro _
      refine br_t (nI_le (by omega) (by show t < 2 ^ 31; omega)) ?_
      exact hpost _ _ _ _ _ _ _ _ _ _ _ _ ⟨⟨rfl, rfl, rfl⟩, h3, h4⟩
  | succ f ih =>
    intro q D hD hp hq vc nt lc vC vS lC lS lP lK lT mC mS hR hpost
    obtain ⟨t, s, L⟩ := D
    have ht2 : t ≤ n := hD.1
    obtain ⟨⟨rfl, rfl, rfl⟩, h3, h4⟩ := hR
    refine br_f (nI_ge (b := 2560) (by omega) (by decide)) ?_
    by_cases ht : t < n
    · have hm := vl_mv_ok (zs := zs) (inp := inp) h hn hz ht hD
      have er : vl_run K op n zs inp (f + 1) (t, s, L) = vl_run K op n zs inp f (vl_mv K op n zs inp t s L) := if_pos ht
      rw [er] at hpost
      have hp : vl_pt K n L t ≤ f + 1 := hp
      refine br_f (nI_ge (by show t < n; exact ht) (by omega)) ?_
      refine nm_r (nI_1 t) ⟨vp_in_nI (by show t < 40; omega) (by decide), vp_in_nI (by show t < 40; omega) (by decide), ?_⟩
      have ec : (nI t).toNatClampNeg = t := nI_clamp (by omega)
      show wpX_runToken _ _ (ki (nI t).toNatClampNeg) (op (nI t).toNatClampNeg)
      rw [ec, hK t ht]
      refine vx_step h hn40 hn hK hi ht hD h3 h4 ?_
      intro vc' nt' lc' vC' vS' lC' lS' lP' lK' lT' mC' mS' hR'
      exact nm_r (nI_1 q) (ih (q + 1) _ hm.1 (by omega) (by omega) _ _ _ _ _ _ _ _ _ _ _ _ hR' hpost)
    · have er : vl_run K op n zs inp (f + 1) (t, s, L) = (t, s, L) := if_neg ht
      rw [er] at hpost
      refine br_t (nI_le (by show n ≤ t; omega) (by show t < 2 ^ 31; omega)) ?_
      exact hpost _ _ _ _ _ _ _ _ _ _ _ _ ⟨⟨rfl, rfl, rfl⟩, h3, h4⟩
theorem vx_workOut {n : Nat} {r : vl_rw} (h : vl_PG K op n) (hn40 : n ≤ 40) (hn : (vl_st K n).2 = []) (hK : ∀ t, t < n → ki t = nI (K t)) (hi : vx_in ic iz zs inp)
    (hr : vl_run K op n zs inp 2560 (0, [], []) = (n, [r], []))
    (hp : ∀ vc nt lc vC vS lC lS lP lK lT mC mS, vS 0 = nI r.1 → (∀ p, p < r.1 → vC p = r.2 p) → post (nI n, sc, ob, vc, nt, lc, ic, iz, ki, op, so, bb, vC, vS, lC, lS, lP, lK, lT, mC, mS)) : wpX_workOut post (nI n, sc, ob, vc, nt, lc, ic, iz, ki, op, so, bb, vC, vS, lC, lS, lP, lK, lT, mC, mS) := by
  have hD : vl_DI K n (0, [], []) := ⟨Nat.zero_le _, True.intro, rfl⟩
  have hpt : vl_pt K n [] 0 ≤ 2560 := by
    show 0 + 64 * (n - 0) ≤ 2560
    omega
  unfold wpX_workOut
  refine ⟨2560 + 1, vx_loop (zs := zs) (inp := inp) h hn40 hn hK (fun i h3 => (hi i h3).2.1) hi 2560 0 (0, [], []) hD hpt (by omega) 0 0 0 vC vS lC lS lP lK lT mC mS ⟨⟨rfl, rfl, rfl⟩, True.intro, True.intro⟩ ?_⟩
  intro vc nt lc vC vS lC lS lP lK lT mC mS hR
  rw [hr] at hR
  obtain ⟨-, ⟨⟨g1, g2, g3⟩, -⟩, -⟩ := hR
  refine hp _ _ _ _ _ _ _ _ _ _ _ _ g1 ?_
  intro p hpp
  have := g3 p hpp
  rw [show 8 * ([] : List vl_rw).length + p = p by show 8 * 0 + p = p; omega] at this
  exact this
end
section
/-! part 15: the reference's small methods -/
variable {cn hg oc tp dp : Int32} {sz inq kq aq ra fl ln va bg mn rs el os ou : Nat → Int32} {s : List vl_rw} {L : List vl_ln} {post : SY → Prop}
theorem vl_lt1 {c p : Nat} (hc : c < 2 ^ 30) (hp : p < 2 ^ 30) : nI c - 1 < nI p ↔ c ≤ p := by
  cases c with
  | zero =>
    have h1 : nI 0 - 1 < 0 := by decide
    exact iff_of_true (Int32.lt_of_lt_of_le h1 (nI_pos' (by omega))) (Nat.zero_le _)
  | succ c =>
    rw [nI_pred, nI_ltI (by omega) (by omega)]
    omega
theorem vy_push {v : Int32} {h : Nat} (hh : h < 7) (hp : post (cn, hg, oc, nI (h + 1), dp, sz, inq, kq, aq, ra, fl, upd ln h 1, upd va (8 * h) v, bg, mn, rs, el, os, ou)) : wpY_pushNumber post (cn, hg, oc, nI h, dp, sz, inq, kq, aq, ra, fl, ln, va, bg, mn, rs, el, os, ou) v := by
  unfold wpY_pushNumber
  simp (disch := omega) only [vl_8m, nI_clamp, vl_in, forall_eq, true_and, nI_1]
  exact hp
theorem vy_sum {post : Int32 → Prop} {f : Nat → Int32} {h c : Nat} (hh : h < 7) (hc : c ≤ 8) (hf : ∀ p, p < c → va (8 * h + p) = f p) (hp : post (vl_sm f c)) : wpY_sumUpTo post (cn, hg, oc, nI h, dp, sz, inq, kq, aq, ra, fl, ln, va, bg, mn, rs, el, os, ou) (nI c - 1) := by
  unfold wpY_sumUpTo
  refine ⟨c - 0 + 1, vl_acc (W := fun k p q => wY_sumUpTo_4 post (nI c - 1) cn hg oc (nI h) dp sz inq kq aq ra fl ln va bg mn rs el os ou k q (nI p)) (F := vl_sm f) (c := c) 0 (by omega) ?_ ?_⟩
  · intro k
    exact br_t ((vl_lt1 (by omega) (by omega)).mpr (Nat.le_refl _)) hp
  · intro k p _ hpc h3
    refine br_f (fun z => by have := (vl_lt1 (by omega) (by omega)).mp z; omega) ?_
    simp (disch := omega) only [vl_8m, nI_add, nI_clamp, vl_in, forall_eq, true_and, nI_1, hf p hpc]
    exact h3
theorem vy_most {post : Int32 → Prop} {f : Nat → Int32} {h c : Nat} (hh : h < 7) (hc : c ≤ 8) (hf : ∀ p, p < c → va (8 * h + p) = f p) (hp : post (vl_mx f c)) : wpY_most post (cn, hg, oc, nI h, dp, sz, inq, kq, aq, ra, fl, ln, va, bg, mn, rs, el, os, ou) (nI c) := by
  unfold wpY_most
  by_cases h0 : c = 0
  · subst h0
    refine br_t (by decide) ⟨1, ?_⟩
    exact br_t (by decide) hp
  · refine br_f (nI_nle (by omega) (by omega)) ?_
    have e0 : va (8 * h) = vl_mx f 1 := hf 0 (by omega)
    simp (disch := omega) only [vl_8m, nI_clamp, vl_in, forall_eq, true_and, e0]
    refine ⟨c - 1 + 1, vl_acc (W := fun k p q => wY_most_23 post (nI c) cn hg oc (nI h) dp sz inq kq aq ra fl ln va bg mn rs el os ou k q (nI p)) (F := vl_mx f) (c := c) 1 (by omega) ?_ ?_⟩
    · intro k
      exact br_t (nI_le (Nat.le_refl _) (by omega)) hp
    · intro k p hp1 hpc h3
      refine br_f (nI_ge hpc (by omega)) ?_
      simp (disch := omega) only [vl_8m, nI_add, nI_clamp, vl_in, forall_eq, true_and, nI_1, hf p hpc]
      cases p with
      | zero => omega
      | succ p =>
        have e1 : vl_mx f (p + 1 + 1) = if vl_mx f (p + 1) < f (p + 1) then f (p + 1) else vl_mx f (p + 1) := rfl
        by_cases hg : f (p + 1) ≤ vl_mx f (p + 1)
        · rw [e1, if_neg (Int32.not_lt.mpr hg)] at h3
          exact br_t hg h3
        · rw [e1, if_pos (Int32.not_le.mp hg)] at h3
          exact br_f hg h3
theorem vy_comb {post : Int32 → Prop} {k : Nat} {n m : Int32} (h3 : 3 ≤ k) (h9 : k < 9) (hp : post (vl_cm k n m)) : wpY_number post (cn, hg, oc, tp, dp, sz, inq, kq, aq, ra, fl, ln, va, bg, mn, rs, el, os, ou) (nI k) n m := by
  have c : k = 3 ∨ k = 4 ∨ k = 5 ∨ k = 6 ∨ k = 7 ∨ k = 8 := by omega
  unfold wpY_number
  rcases c with rfl | rfl | rfl | rfl | rfl | rfl
  · exact br_f (by decide) (br_f (by decide) (br_t (by decide) hp))
  · exact br_f (by decide) (br_f (by decide) (br_f (by decide) (br_t (by decide) hp)))
  · exact br_f (by decide) (br_f (by decide) (br_f (by decide) (br_f (by decide) (br_t (by decide) hp))))
  · have e : vl_cm 6 n m = if m = 0 then 0 else n / m := rfl
    rw [e] at hp
    refine br_f (by decide) (br_f (by decide) (br_f (by decide) (br_f (by decide) (br_f (by decide) (br_t (by decide) (br_c ?_ ?_))))))
    · intro z; rw [if_pos z] at hp; exact hp
    · intro z; rw [if_neg z] at hp; exact ⟨z, hp⟩
  · have e : vl_cm 7 n m = if n < m then 1 else 0 := rfl
    rw [e] at hp
    refine br_f (by decide) (br_f (by decide) (br_f (by decide) (br_f (by decide) (br_f (by decide) (br_f (by decide) (br_t (by decide) (br_c ?_ ?_)))))))
    · intro z; rw [if_neg (Int32.not_lt.mpr z)] at hp; exact hp
    · intro z; rw [if_pos (Int32.not_le.mp z)] at hp; exact hp
  · have e : vl_cm 8 n m = if n = m then 1 else 0 := rfl
    rw [e] at hp
    refine br_f (by decide) (br_t (by decide) (br_c ?_ ?_))
    · intro z; rw [if_pos z] at hp; exact hp
    · intro z; rw [if_neg z] at hp; exact hp
theorem vy_xch {h a b : Nat} (ha : 8 * h + a < 56) (hb : 8 * h + b < 56) (hp : post (cn, hg, oc, nI h, dp, sz, inq, kq, aq, ra, fl, ln, upd (upd va (8 * h + a) (va (8 * h + b))) (8 * h + b) (va (8 * h + a)), bg, mn, rs, el, os, ou)) : wpY_exchange post (cn, hg, oc, nI h, dp, sz, inq, kq, aq, ra, fl, ln, va, bg, mn, rs, el, os, ou) (nI a) (nI b) := by
  unfold wpY_exchange
  simp (disch := omega) only [vl_8m, nI_add, nI_clamp, vl_in, forall_eq, true_and]
  exact hp
theorem vy_turn {r : vl_rw} (hs : vl_xS va ln (r :: s)) (hl : s.length + 1 ≤ 6)
    (hp : ∀ C, vl_xS C ln ((r.1, fun p => r.2 (r.1 - 1 - p)) :: s) → post (cn, hg, oc, nI s.length, dp, sz, inq, kq, aq, ra, fl, ln, C, bg, mn, rs, el, os, ou)) : wpY_turn post (cn, hg, oc, nI s.length, dp, sz, inq, kq, aq, ra, fl, ln, va, bg, mn, rs, el, os, ou) (nI r.1) := by
  have hs0 := hs
  obtain ⟨⟨g1, g2, g3⟩, g4⟩ := hs
  unfold wpY_turn
  refine ⟨r.1 / 2 + 1, vl_turn (W := fun k p b => wY_turn_2 post (nI r.1) k (nI p) cn hg oc (nI s.length) dp sz inq kq aq ra fl ln (b) bg mn rs el os ou) (a := va) (o := 8 * s.length) (m := r.1) ?_ ?_⟩
  · intro k b h1 h2
    refine ⟨by decide, br_t (by rw [vl_d2 (by omega)]; exact nI_le (Nat.le_refl _) (by omega)) ?_⟩
    refine hp _ (vl_xS_top hs0 ?_ (fun j hj => h2 j (Or.inl hj)))
    intro p hpp
    rw [h1 p hpp]
    exact g3 _ (by omega)
  · intro k i b hi h3
    refine ⟨by decide, br_f (by rw [vl_d2 (by omega)]; exact nI_ge hi (by omega)) ?_⟩
    have e : nI r.1 - 1 - nI i = nI (r.1 - 1 - i) := by
      rw [vl_sub1 _ (by omega), pk_sub (by omega)]
    rw [e]
    refine vy_xch (by omega) (by omega) ?_
    exact nm_r (nI_1 i) h3
theorem vy_scan {r : vl_rw} (hs : vl_xS va ln (r :: s)) (hl : s.length + 1 ≤ 6)
    (hp : ∀ C, vl_xS C ln ((r.1, fun p => vl_sm r.2 (p + 1)) :: s) → post (cn, hg, oc, nI s.length, dp, sz, inq, kq, aq, ra, fl, ln, C, bg, mn, rs, el, os, ou)) : wpY_scan post (cn, hg, oc, nI s.length, dp, sz, inq, kq, aq, ra, fl, ln, va, bg, mn, rs, el, os, ou) (nI r.1) := by
  have hs0 := hs
  obtain ⟨⟨g1, g2, g3⟩, g4⟩ := hs
  unfold wpY_scan
  simp only [forall_eq]
  by_cases h0 : r.1 = 0
  · refine ⟨1, br_t (by rw [h0]; decide) ?_⟩
    exact hp _ (vl_xS_top hs0 (fun p hpp => by omega) (fun j hj => rfl))
  · have H : ∀ d b, d < r.1 → (∀ p, p ≤ d → b (8 * s.length + p) = r.2 p) → (∀ p, d < p → p < r.1 → b (8 * s.length + p) = vl_sm r.2 (p + 1)) → (∀ j, j < 8 * s.length → b j = va j) →
        wY_scan_4 post cn hg oc (nI s.length) dp (d + 1) (nI d) sz inq kq aq ra fl ln (b) bg mn rs el os ou := by
      intro d
      induction d with
      | zero =>
        intro b hd h1 h2 h3
        refine br_t (by decide) ?_
        refine hp _ (vl_xS_top hs0 ?_ h3)
        intro p hpp
        by_cases e : p = 0
        · subst e
          rw [h1 0 (by omega)]
          show r.2 0 = 0 + r.2 0
          rw [Int32.zero_add]
        · exact h2 p (by omega) hpp
      | succ d ih =>
        intro b hd h1 h2 h3
        refine br_f (nI_nle (by omega) (by omega)) ?_
        have e : nI (d + 1) = nI (d + 2) - 1 := (nI_pred (d + 1)).symm
        have go : wpY_sumUpTo (fun r_3 => (vp_in ((8 * nI s.length) + nI (d + 1)) 56 ∧ ∀ a : Nat → Int32, a = upd b ((8 * nI s.length) + nI (d + 1)).toNatClampNeg r_3 → ∀ x : Int32, x = nI (d + 1) + (-1) → wY_scan_4 post cn hg oc (nI s.length) dp (d + 1) x sz inq kq aq ra fl ln (a) bg mn rs el os ou)) (cn, hg, oc, nI s.length, dp, sz, inq, kq, aq, ra, fl, ln, b, bg, mn, rs, el, os, ou) (nI (d + 2) - 1) := by
          refine vy_sum (f := r.2) (c := d + 2) (by omega) (by omega) (fun p hpp => h1 p (by omega)) ?_
          simp (disch := omega) only [vl_8m, nI_add, nI_clamp, vl_in, forall_eq, true_and, pk_m1]
          refine ih _ (by omega) ?_ ?_ ?_
          · intro p hpp
            rw [pk_un (by omega)]; exact h1 p (by omega)
          · intro p hpp hpr
            by_cases e2 : p = d + 1
            · subst e2; rw [pk_us]
            · rw [pk_un (by omega)]; exact h2 p (by omega) hpr
          · intro j hj
            rw [pk_un (by omega)]; exact h3 j hj
        rw [← e] at go
        exact go
    refine ⟨r.1 - 1 + 1, ?_⟩
    rw [vl_sub1 _ (by omega)]
    exact H (r.1 - 1) va (by omega) (fun p hpp => g3 p (by omega)) (fun p h1 h2 => by omega) (fun j hj => rfl)
theorem vy_sort {r : vl_rw} (hs : vl_xS va ln (r :: s)) (hl : s.length + 1 ≤ 6)
    (hp : ∀ C, vl_xS C ln ((r.1, vl_so r.1 r.2) :: s) → post (cn, hg, oc, nI s.length, dp, sz, inq, kq, aq, ra, fl, ln, C, bg, mn, rs, el, os, ou)) : wpY_sortRow post (cn, hg, oc, nI s.length, dp, sz, inq, kq, aq, ra, fl, ln, va, bg, mn, rs, el, os, ou) (nI r.1) := by
  have hs0 := hs
  obtain ⟨⟨g1, g2, g3⟩, g4⟩ := hs
  unfold wpY_sortRow
  refine ⟨r.1 + 1, vl_bub (Wo := fun k c b => wY_sortRow_2 post (nI r.1) k (nI c) cn hg oc (nI s.length) dp sz inq kq aq ra fl ln (b) bg mn rs el os ou)
    (Wi := fun k c q l b => wY_sortRow_9 post (wY_sortRow_2 post (nI r.1) k) (nI r.1) (nI c) q (nI l) cn hg oc (nI s.length) dp sz inq kq aq ra fl ln (b) bg mn rs el os ou)
    (a := va) (o := 8 * s.length) (m := r.1) ?_ ?_ ?_ ?_ ?_⟩
  · intro k b h1 h2
    refine br_t (nI_le (by omega) (by omega)) ?_
    refine hp _ (vl_xS_top hs0 ?_ (fun j hj => h2 j (Or.inl hj)))
    intro p hpp
    refine vl_so_eq (m := r.1) (f := r.2) (g := fun p => b (8 * s.length + p)) ⟨h1.1, ?_⟩ p hpp
    intro v
    rw [h1.2 v]
    exact vl_ct_congr g3
  · intro k c b hc h3
    exact br_f (nI_ge (by omega) (by omega)) h3
  · intro k c q l b hc hl1 hl2 h3
    refine br_t (by rw [nI_1]; exact nI_le (by omega) (by omega)) (nm_r (nI_1 _) h3)
  · intro k c q l b hc hl1 hx h3
    refine br_f (by rw [nI_1]; exact nI_ge (by omega) (by omega)) ?_
    rw [vl_8m, nI_add, nI_1, nI_clamp (by omega), nI_clamp (by omega)]
    refine ⟨vp_in_nI (by omega) (by decide), vp_in_nI (by omega) (by decide), br_f hx ?_⟩
    rw [nI_1]
    refine vy_xch (by omega) (by omega) ?_
    exact nm_r rfl h3
  · intro k c q l b hc hl1 hx h3
    refine br_f (by rw [nI_1]; exact nI_ge (by omega) (by omega)) ?_
    rw [vl_8m, nI_add, nI_1, nI_clamp (by omega), nI_clamp (by omega)]
    exact ⟨vp_in_nI (by omega) (by decide), vp_in_nI (by omega) (by decide), br_t hx (nm_r (nI_1 _) h3)⟩
theorem vy_join {q r : vl_rw} (hs : vl_xS va ln (q :: r :: s)) (hl : s.length + 2 ≤ 6)
    (hp : ∀ C Z, vl_xS C Z ((if r.1 + q.1 < 8 then r.1 + q.1 else 8, fun p => if p < r.1 then r.2 p else q.2 (p - r.1)) :: s) → post (cn, hg, oc, nI (s.length + 1), dp, sz, inq, kq, aq, ra, fl, Z, C, bg, mn, rs, el, os, ou)) : wpY_join post (cn, hg, oc, nI s.length, dp, sz, inq, kq, aq, ra, fl, ln, va, bg, mn, rs, el, os, ou) := by
  obtain ⟨⟨f1, f2, f3⟩, ⟨g1, g2, g3⟩, g4⟩ := hs
  have f1 : ln (s.length + 1) = nI q.1 := f1
  have f3 : ∀ p, p < q.1 → va (8 * (s.length + 1) + p) = q.2 p := f3
  unfold wpY_join
  simp (disch := omega) only [nI_1, nI_clamp, vl_in, forall_eq, true_and, g1, f1]
  obtain ⟨c, hc⟩ : ∃ c, c = if r.1 + q.1 < 8 then q.1 else 8 - r.1 := ⟨_, rfl⟩
  have hc1 : c ≤ q.1 := by rw [hc]; split <;> omega
  have hc2 : r.1 + c = if r.1 + q.1 < 8 then r.1 + q.1 else 8 := by rw [hc]; split <;> omega
  have hc3 : r.1 + c ≤ 8 := by rw [hc2]; split <;> omega
  have hc4 : c < q.1 → 8 ≤ r.1 + c := by rw [hc]; split <;> omega
  rw [← hc2] at hp
  refine ⟨c + 1, vl_copy (W := fun k p b => wY_join_24 post (nI r.1) (nI q.1) cn hg oc (nI s.length) dp k (nI p) sz inq kq aq ra fl ln (b) bg mn rs el os ou) (src := q.2) (a := va) (o := 8 * s.length + r.1) (c := c) ?_ ?_⟩
  · intro k b h1 h2
    have fin : post (cn, hg, oc, nI (s.length + 1), dp, sz, inq, kq, aq, ra, fl, upd ln s.length (nI (r.1 + c)), b, bg, mn, rs, el, os, ou) := by
      refine hp _ _ (vl_xS_push g4 hc3 pk_us ?_ (fun j hj => h2 j (by omega)) (fun j hj => pk_un (by omega)))
      intro p hpp
      have hpp : p < r.1 + c := hpp
      show b (8 * s.length + p) = if p < r.1 then r.2 p else q.2 (p - r.1)
      by_cases e : p < r.1
      · rw [if_pos e, h2 _ (by omega)]; exact g3 p e
      · rw [if_neg e]
        have := h1 (p - r.1) (by omega)
        rw [show 8 * s.length + r.1 + (p - r.1) = 8 * s.length + p by omega] at this
        exact this
    have fin76 : wY_join_76 post (nI r.1) (nI q.1) cn hg oc (nI s.length) dp sz inq kq aq ra fl ln (b) bg mn rs el os ou := by
      unfold wY_join_76
      rw [nI_add]
      refine pk_le (r.1 + q.1) 8 ?_ ?_ rfl rfl (by omega) (by omega)
      · intro hz
        unfold wY_join_100
        simp (disch := omega) only [nI_clamp, vl_in, forall_eq, true_and, nI_1]
        rw [show r.1 + q.1 = r.1 + c by rw [hc2]; split <;> omega]
        exact fin
      · intro hz
        unfold wY_join_100
        simp (disch := omega) only [nI_clamp, vl_in, forall_eq, true_and, nI_1]
        rw [show r.1 + c = 8 by rw [hc2]; split <;> omega] at fin
        exact fin
    by_cases e : q.1 ≤ c
    · exact br_t (nI_le e (by omega)) fin76
    · exact br_f (nI_ge (by omega) (by omega)) (br_t (by rw [nI_add]; exact nI_le (a := 8) (hc4 (by omega)) (by omega)) fin76)
  · intro k p b hpc h1 h2 h3
    refine br_f (nI_ge (by omega) (by omega)) (br_f (by rw [nI_add]; exact nI_ge (b := 8) (by omega) (by decide)) ?_)
    simp (disch := omega) only [vl_8m, vl_a8, nI_add, nI_clamp, vl_in, forall_eq, true_and, nI_1]
    rw [h2 _ (by omega), show 8 * s.length + 8 + p = 8 * (s.length + 1) + p by omega, f3 p (by omega)]
    exact h3
theorem vy_up31 {c : Nat} {Z : Nat → Int32} (hc : c ≤ 8) (hZ : Z s.length = nI c) (hZ2 : ∀ j, j < s.length → Z j = ln j) (g4 : vl_xS va ln s) (hl : s.length + 1 ≤ 6)
    (hp : ∀ C Z, vl_xS C Z ((c, fun p => nI p) :: s) → post (cn, hg, oc, nI (s.length + 1), dp, sz, inq, kq, aq, ra, fl, Z, C, bg, mn, rs, el, os, ou)) : ∃ n, wY_upTo_31 post cn hg oc (nI s.length) dp n 0 sz inq kq aq ra fl (Z) va bg mn rs el os ou := by
  refine ⟨8 + 1, vl_copy (W := fun k p b => wY_upTo_31 post cn hg oc (nI s.length) dp k (nI p) sz inq kq aq ra fl (Z) (b) bg mn rs el os ou) (src := fun p => nI p) (a := va) (o := 8 * s.length) (c := 8) ?_ ?_⟩
  · intro k b h1 h2
    refine br_t (by decide) (nm_r (nI_1 _) ?_)
    exact hp _ _ (vl_xS_push g4 hc hZ (fun p hpp => h1 p (by have : p < c := hpp; omega)) (fun j hj => h2 j (Or.inl hj)) hZ2)
  · intro k p b hpc h1 h2 h3
    refine br_f (nI_ge (b := 8) hpc (by decide)) ?_
    simp (disch := omega) only [vl_8m, nI_add, nI_clamp, vl_in, forall_eq, true_and, nI_1]
    exact h3
theorem vy_upto {x : Int32} (hs : vl_xS va ln s) (hl : s.length + 1 ≤ 6)
    (hp : ∀ C Z, vl_xS C Z ((vl_cl x, fun p => nI p) :: s) → post (cn, hg, oc, nI (s.length + 1), dp, sz, inq, kq, aq, ra, fl, Z, C, bg, mn, rs, el, os, ou)) : wpY_upTo post (cn, hg, oc, nI s.length, dp, sz, inq, kq, aq, ra, fl, ln, va, bg, mn, rs, el, os, ou) x := by
  unfold wpY_upTo
  have ec : (nI s.length).toNatClampNeg = s.length := nI_clamp (by omega)
  have hv : vp_in (nI s.length) 7 := vp_in_nI (by omega) (by decide)
  refine br_c ?_ ?_
  · intro z
    obtain ⟨j, hj, ej⟩ := nI_of (Int32.not_lt.mpr z)
    rw [ej] at hp ⊢
    refine pk_le j 8 ?_ ?_ rfl rfl hj
    · intro hj8
      have e : vl_cl (nI j) = j := vl_cl_le hj8
      rw [e] at hp
      rw [ec]
      exact ⟨hv, nm_e (vy_up31 hj8 pk_us (fun j hj => pk_un (by omega)) hs hl hp)⟩
    · intro hj8
      have e : vl_cl (nI j) = 8 := vl_cl_gt hj8 hj
      rw [e] at hp
      rw [ec]
      exact ⟨hv, nm_e (vy_up31 (c := 8) (by omega) pk_us (fun j hj => pk_un (by omega)) hs hl hp)⟩
  · intro z
    have e : vl_cl x = 0 := if_pos (Int32.not_le.mp z)
    rw [e] at hp
    rw [ec]
    exact ⟨hv, nm_e (vy_up31 (c := 0) (by omega) pk_us (fun j hj => pk_un (by omega)) hs hl hp)⟩
end
section
/-! part 16: the reference's tokens -/
variable {cn hg oc tp dp : Int32} {sz inq kq aq ra fl ln va bg mn rs el os ou : Nat → Int32} {s : List vl_rw} {L : List vl_ln} {post : SY → Prop} {zs : Nat → Nat} {inp : Nat → Nat → Int32}
def vl_ytk (k : Nat) : Nat := if k < 3 then 0 else if k = 21 then 0 else if k = 9 then 3 else if k < 9 then 2 else if k = 13 then 2 else if k = 15 then 2 else 1
theorem vy_takes {post : Int32 → Prop} {k t : Nat} (hk : k < 22) (ht : vl_ytk k = t) (hp : post (nI t)) : wpY_takes post (cn, hg, oc, tp, dp, sz, inq, kq, aq, ra, fl, ln, va, bg, mn, rs, el, os, ou) (nI k) := by
  subst ht
  unfold wpY_takes
  unfold vl_ytk at hp
  refine pk_lt k 3 (fun h => ?_) (fun h => pk_eq k 21 (fun h1 => ?_) (fun h1 => pk_eq k 9 (fun h2 => ?_) (fun h2 => pk_lt k 9 (fun h3 => ?_) (fun h3 => pk_eq k 13 (fun h4 => ?_) (fun h4 => pk_eq k 15 (fun h5 => ?_) (fun h5 => ?_))))))
  · rw [if_pos h] at hp; exact hp
  · rw [if_neg (by omega), if_pos h1] at hp; exact hp
  · rw [if_neg (by omega), if_neg h1, if_pos h2] at hp; exact hp
  · rw [if_neg (by omega), if_neg h1, if_neg h2, if_pos h3] at hp; exact hp
  · rw [if_neg (by omega), if_neg h1, if_neg h2, if_neg (by omega), if_pos h4] at hp; exact hp
  · rw [if_neg (by omega), if_neg h1, if_neg h2, if_neg (by omega), if_neg h4, if_pos h5] at hp; exact hp
  · rw [if_neg (by omega), if_neg h1, if_neg h2, if_neg (by omega), if_neg h4, if_neg h5] at hp; exact hp
theorem vl_sb (a b : Nat) : nI (a + b) - nI b = nI a := by rw [pk_sub (by omega), Nat.add_sub_cancel]
theorem vy_co_n {k h t : Nat} {a v : Int32} (h3 : 3 ≤ k) (h14 : k < 14) (ht : vl_ytk k = t) (hh : h < 7) (hv : ∀ Q : Int32 → Prop, Q v → wpY_asNumber Q (cn, hg, oc, nI h, dp, sz, inq, kq, aq, ra, fl, ln, va, bg, mn, rs, el, os, ou) (nI k))
    (hp : post (cn, hg, oc, nI (h + 1), dp, sz, inq, kq, aq, ra, fl, upd ln h 1, upd va (8 * h) v, bg, mn, rs, el, os, ou)) : wpY_carryOut post (cn, hg, oc, nI (h + t), dp, sz, inq, kq, aq, ra, fl, ln, va, bg, mn, rs, el, os, ou) (nI k) a := by
  unfold wpY_carryOut
  refine br_t (nI_le (a := 3) h3 (by omega)) (vy_takes (by omega) ht ?_)
  refine nm_r (vl_sb h t) ⟨vp_in_nI hh (by decide), nm_e (br_f (nI_ge (b := 14) h14 (by decide)) ?_)⟩
  refine hv _ ?_
  exact vy_push hh hp
theorem vy_as_p {post : Int32 → Prop} {k : Nat} (h3 : 3 ≤ k) (h9 : k < 9) {m n : vl_rw} (hs : vl_xS va ln (m :: n :: s)) (hm : m.1 = 1) (hn : n.1 = 1) (hl : s.length + 2 ≤ 6) (hp : post (vl_cm k (n.2 0) (m.2 0))) : wpY_asNumber post (cn, hg, oc, nI s.length, dp, sz, inq, kq, aq, ra, fl, ln, va, bg, mn, rs, el, os, ou) (nI k) := by
  have e1 : va (8 * s.length + 8) = m.2 0 := vl_xS_0 hs hm
  have e2 : va (8 * s.length) = n.2 0 := vl_xS_0 hs.2 hn
  unfold wpY_asNumber
  simp (disch := omega) only [vl_8m, nI_clamp, vl_in, forall_eq, true_and, vl_a8, e1, e2]
  refine br_f (nI_ge (b := 9) h9 (by decide)) ?_
  exact vy_comb h3 h9 hp
theorem vy_as_9 {post : Int32 → Prop} {k m n : vl_rw} (hs : vl_xS va ln (k :: m :: n :: s)) (hk : k.1 = 1) (hm : m.1 = 1) (hn : n.1 = 1) (hl : s.length + 3 ≤ 6) (hp : post (if n.2 0 = 0 then k.2 0 else m.2 0)) : wpY_asNumber post (cn, hg, oc, nI s.length, dp, sz, inq, kq, aq, ra, fl, ln, va, bg, mn, rs, el, os, ou) (nI 9) := by
  have e0 : va (8 * s.length + 16) = k.2 0 := vl_xS_0 hs hk
  have e1 : va (8 * s.length + 8) = m.2 0 := vl_xS_0 hs.2 hm
  have e2 : va (8 * s.length) = n.2 0 := vl_xS_0 hs.2.2 hn
  unfold wpY_asNumber
  simp (disch := omega) only [vl_8m, nI_clamp, vl_in, forall_eq, true_and, vl_a8, vl_a16, e0, e1, e2]
  refine br_t (by decide) (br_t (by decide) (br_c ?_ ?_))
  · intro z; rw [if_pos z] at hp; exact hp
  · intro z; rw [if_neg z] at hp; exact hp
theorem vy_as_m {post : Int32 → Prop} {k : Nat} (hk : k = 10 ∨ k = 11 ∨ k = 12) {r : vl_rw} (hs : vl_xS va ln (r :: s)) (hl : s.length + 1 ≤ 6) (hp : post (if k = 10 then nI r.1 else if k = 11 then vl_sm r.2 r.1 else vl_mx r.2 r.1)) : wpY_asNumber post (cn, hg, oc, nI s.length, dp, sz, inq, kq, aq, ra, fl, ln, va, bg, mn, rs, el, os, ou) (nI k) := by
  obtain ⟨⟨g1, g2, g3⟩, g4⟩ := hs
  unfold wpY_asNumber
  refine ⟨by rw [vl_8m]; exact vp_in_nI (by omega) (by decide), nm_e ⟨vp_in_nI (by omega) (by decide), nm_r (e' := nI r.1) (by rw [nI_clamp (by omega)]; exact g1) ?_⟩⟩
  rcases hk with rfl | rfl | rfl
  · exact br_t (by decide) (br_f (by decide) (br_t (by decide) hp))
  · refine br_t (by decide) (br_f (by decide) (br_f (by decide) (br_t (by decide) ?_)))
    exact vy_sum (by omega) g2 g3 hp
  · refine br_t (by decide) (br_f (by decide) (br_f (by decide) (br_f (by decide) (br_t (by decide) ?_))))
    exact vy_most (by omega) g2 g3 hp
theorem vy_as_13 {post : Int32 → Prop} {i r : vl_rw} (hs : vl_xS va ln (i :: r :: s)) (hi : i.1 = 1) (hl : s.length + 2 ≤ 6) (hp : post (vl_at (i.2 0) r)) : wpY_asNumber post (cn, hg, oc, nI s.length, dp, sz, inq, kq, aq, ra, fl, ln, va, bg, mn, rs, el, os, ou) (nI 13) := by
  have e1 : va (8 * s.length + 8) = i.2 0 := vl_xS_0 hs hi
  obtain ⟨-, ⟨g1, g2, g3⟩, g4⟩ := hs
  unfold wpY_asNumber
  refine ⟨by rw [vl_8m]; exact vp_in_nI (by omega) (by decide), nm_e ⟨vp_in_nI (by omega) (by decide), nm_r (e' := nI r.1) (by rw [nI_clamp (by omega)]; exact g1) ?_⟩⟩
  refine br_t (by decide) (br_f (by decide) (br_f (by decide) (br_f (by decide) (br_f (by decide) ?_))))
  refine ⟨by rw [vl_8m, vl_a8]; exact vp_in_nI (by omega) (by decide), nm_r (e' := i.2 0) (by rw [vl_8m, vl_a8, nI_clamp (by omega)]; exact e1) ?_⟩
  refine br_c ?_ ?_
  · intro z
    have e : vl_at (i.2 0) r = 0 := if_neg (fun w => Int32.not_lt.mpr w.1 z)
    rw [e] at hp
    exact hp
  · intro z
    obtain ⟨j, hj, ej⟩ := nI_of z
    rw [ej] at hp ⊢
    refine br_c ?_ ?_
    · intro z2
      have e : vl_at (nI j) r = 0 := if_neg (fun w => Int32.not_lt.mpr z2 w.2)
      rw [e] at hp
      exact hp
    · intro z2
      rw [nI_leI (by omega) hj] at z2
      have e : vl_at (nI j) r = r.2 j := by
        unfold vl_at
        rw [if_pos ⟨nI_pos' hj, nI_lt (by omega) (by omega)⟩, nI_clamp hj]
      rw [e] at hp
      rw [vl_8m, nI_add, nI_clamp (by omega), g3 j (by omega)]
      exact ⟨vp_in_nI (by omega) (by decide), hp⟩
theorem vy_pushInput {i c : Nat} {Z : Nat → Int32} {r : Nat → Int32} (hl : s.length < 6) (hi : i < 3) (hc : c ≤ 8) (hZ : Z s.length = nI c) (hZ2 : ∀ j, j < s.length → Z j = ln j) (hs : vl_xS va ln s) (hr : ∀ p, p < c → inq (8 * i + p) = r p)
    (hp : ∀ C, vl_xS C Z ((c, r) :: s) → post (cn, hg, oc, nI (s.length + 1), dp, sz, inq, kq, aq, ra, fl, Z, C, bg, mn, rs, el, os, ou)) : ∃ n, wY_simple_34 post (nI i) cn hg oc (nI s.length) dp n 0 sz inq kq aq ra fl (Z) va bg mn rs el os ou := by
  refine ⟨8 + 1, vl_copy (W := fun k p b => wY_simple_34 post (nI i) cn hg oc (nI s.length) dp k (nI p) sz inq kq aq ra fl (Z) (b) bg mn rs el os ou) (src := fun p => inq (8 * i + p)) (a := va) (o := 8 * s.length) (c := 8) ?_ ?_⟩
  · intro k b h1 h2
    refine br_t (by decide) (nm_r (nI_1 _) ?_)
    exact hp _ (vl_xS_push hs hc hZ (fun p hpp => (h1 p (by have : p < c := hpp; omega)).trans (hr p hpp)) (fun j hj => h2 j (Or.inl hj)) hZ2)
  · intro k p b hpc h1 h2 h3
    refine br_f (nI_ge (b := 8) hpc (by decide)) ?_
    simp (disch := omega) only [vl_8m, nI_add, nI_clamp, vl_in, forall_eq, true_and, nI_1]
    exact h3
theorem vy_simple {k : Nat} {a : Int32} {S F : List Nat} (ho : vl_ok k a (S, F)) (k1 : k < 19) (hT : vl_TY S s) (h6 : S.length ≤ 6) (hF : L.length = F.length) (hF2 : F.length ≤ 2)
    (hs : vl_xS va ln s) (hL : vl_yL rs mn el bg os ou L) (hi : vx_in inq sz zs inp)
    (hp : ∀ C Z, vl_xS C Z (vl_ap zs inp L a k s) → post (cn, hg, oc, nI (vl_ap zs inp L a k s).length, dp, sz, inq, kq, aq, ra, fl, Z, C, bg, mn, rs, el, os, ou)) : wpY_carryOut post (cn, hg, oc, nI s.length, dp, sz, inq, kq, aq, ra, fl, ln, va, bg, mn, rs, el, os, ou) (nI k) a := by
  obtain ⟨o1, o2, ⟨o3, -⟩, o4, o5⟩ := ho
  obtain ⟨R, e, hb, -⟩ := vl_ss_ok o2
  have h6' : s.length ≤ 6 := by rw [vl_TYl hT]; exact h6
  subst e
  have c : k = 0 ∨ k = 1 ∨ k = 2 ∨ (3 ≤ k ∧ k < 9) ∨ k = 9 ∨ (k = 10 ∨ k = 11 ∨ k = 12) ∨ k = 13 ∨ k = 14 ∨ k = 15 ∨ k = 16 ∨ k = 17 ∨ k = 18 := by omega
  rcases c with rfl | rfl | rfl | ⟨c1, c2⟩ | rfl | c1 | rfl | rfl | rfl | rfl | rfl | rfl
  · have o3 : (vl_nd 0 ++ R).length < 6 := o3 (by omega)
    have o3 : s.length < 6 := by rw [vl_TYl hT]; exact o3
    unfold wpY_carryOut
    refine br_f (by decide) ?_
    unfold wpY_simple
    refine br_t (by decide) ?_
    refine vy_push (by omega) ?_
    exact hp _ _ (vl_xS_num hs)
  · have o3 : (vl_nd 1 ++ R).length < 6 := o3 (by omega)
    have o3 : s.length < 6 := by rw [vl_TYl hT]; exact o3
    obtain ⟨i, h3, rfl⟩ := o4 rfl
    obtain ⟨z1, z2, z3⟩ := hi i h3
    have ea : vl_ap zs inp L (nI i) 1 s = (zs i, inp i) :: s := by
      show (zs (nI i).toNatClampNeg, inp (nI i).toNatClampNeg) :: s = _
      rw [nI_clamp (by omega)]
    rw [ea] at hp
    unfold wpY_carryOut
    refine br_f (by decide) ?_
    unfold wpY_simple
    refine br_f (by decide) (br_t (by decide) ⟨vp_in_nI h3 (by decide), vp_in_nI (by omega) (by decide), ?_⟩)
    rw [nI_clamp (by omega), nI_clamp (by omega), z1]
    exact nm_e (vy_pushInput o3 h3 z2 pk_us (fun j hj => pk_un (by omega)) hs z3 (fun C hx => hp C _ hx))
  · have o3 : (vl_nd 2 ++ R).length < 6 := o3 (by omega)
    have o3 : s.length < 6 := by rw [vl_TYl hT]; exact o3
    obtain ⟨i, h3, rfl⟩ := o5 rfl
    have h3 : i < F.length := h3
    have ea : vl_ap zs inp L (nI i) 2 s = (1, fun _ => vl_el L i) :: s := by
      show (1, fun _ => vl_el L (nI i).toNatClampNeg) :: s = _
      rw [nI_clamp (by omega)]
    rw [ea] at hp
    obtain ⟨e, he, h4, h5⟩ := vl_yL_el hL (i := i) (by omega)
    unfold wpY_carryOut
    refine br_f (by decide) ?_
    unfold wpY_simple
    refine br_f (by decide) (br_f (by decide) ⟨vp_in_nI (by omega) (by decide), ?_⟩)
    rw [nI_clamp (by omega), h4, vl_8m, nI_add, nI_clamp (by omega), h5]
    refine ⟨vp_in_nI (by omega) (by decide), nm_e ?_⟩
    refine vy_push (by omega) ?_
    exact hp _ _ (vl_xS_num hs)
  · rw [show vl_nd k = [1, 1] by unfold vl_nd; rw [if_neg (by omega), if_pos c2]] at hT
    obtain ⟨m, s, rfl, -, t1, hT⟩ := vl_TYc hT
    obtain ⟨n, s, rfl, -, t2, hT⟩ := vl_TYc hT
    have ea : vl_ap zs inp L a k (m :: n :: s) = (1, fun _ => vl_cm k (n.2 0) (m.2 0)) :: s := by
      unfold vl_ap
      rw [if_neg (by omega), if_neg (by omega), if_neg (by omega), if_pos c2]
    rw [ea] at hp
    have h6' : s.length + 2 ≤ 6 := h6'
    refine vy_co_n (h := s.length) (t := 2) c1 (by omega) (by unfold vl_ytk; rw [if_neg (by omega), if_neg (by omega), if_neg (by omega), if_pos c2]) (by omega) (fun Q hQ => vy_as_p c1 c2 hs (t1 rfl) (t2 rfl) h6' hQ) ?_
    exact hp _ _ (vl_xS_num hs.2.2)
  · obtain ⟨m, s, rfl, -, t1, hT⟩ := vl_TYc hT
    obtain ⟨n, s, rfl, -, t2, hT⟩ := vl_TYc hT
    obtain ⟨q, s, rfl, -, t3, hT⟩ := vl_TYc hT
    have h6' : s.length + 3 ≤ 6 := h6'
    refine vy_co_n (h := s.length) (t := 3) (by omega) (by omega) rfl (by omega) (fun Q hQ => vy_as_9 hs (t1 rfl) (t2 rfl) (t3 rfl) h6' hQ) ?_
    exact hp _ _ (vl_xS_num hs.2.2.2)
  · rw [show vl_nd k = [2] by rcases c1 with rfl | rfl | rfl <;> rfl] at hT
    obtain ⟨r, s, rfl, -, -, hT⟩ := vl_TYc hT
    have h6' : s.length + 1 ≤ 6 := h6'
    have ea : vl_ap zs inp L a k (r :: s) = (1, fun _ => if k = 10 then nI r.1 else if k = 11 then vl_sm r.2 r.1 else vl_mx r.2 r.1) :: s := by
      rcases c1 with rfl | rfl | rfl <;> rfl
    rw [ea] at hp
    refine vy_co_n (h := s.length) (t := 1) (by omega) (by omega) (by rcases c1 with rfl | rfl | rfl <;> rfl) (by omega) (fun Q hQ => vy_as_m c1 hs h6' hQ) ?_
    exact hp _ _ (vl_xS_num hs.2)
  · obtain ⟨m, s, rfl, -, t1, hT⟩ := vl_TYc hT
    obtain ⟨n, s, rfl, -, -, hT⟩ := vl_TYc hT
    have h6' : s.length + 2 ≤ 6 := h6'
    refine vy_co_n (h := s.length) (t := 2) (by omega) (by omega) rfl (by omega) (fun Q hQ => vy_as_13 hs (t1 rfl) h6' hQ) ?_
    exact hp _ _ (vl_xS_num hs.2.2)
  · obtain ⟨m, s, rfl, -, t1, hT⟩ := vl_TYc hT
    have h6' : s.length + 1 ≤ 6 := h6'
    have e2 : va (8 * s.length) = m.2 0 := vl_xS_0 hs (t1 rfl)
    unfold wpY_carryOut
    refine br_t (by decide) (vy_takes (t := 1) (by omega) rfl ?_)
    refine nm_r (vl_sb s.length 1) ⟨vp_in_nI (by omega) (by decide), nm_e (br_t (by decide) (br_t (by decide) ?_))⟩
    rw [vl_8m, nI_clamp (by omega), e2]
    refine ⟨vp_in_nI (by omega) (by decide), ?_⟩
    exact vy_upto hs.2 h6' hp
  · obtain ⟨m, s, rfl, -, -, hT⟩ := vl_TYc hT
    obtain ⟨n, s, rfl, -, -, hT⟩ := vl_TYc hT
    have h6' : s.length + 2 ≤ 6 := h6'
    unfold wpY_carryOut
    refine br_t (by decide) (vy_takes (t := 2) (by omega) rfl ?_)
    refine nm_r (vl_sb s.length 2) ⟨vp_in_nI (by omega) (by decide), nm_e (br_t (by decide) (br_f (by decide) (br_t (by decide) ?_)))⟩
    exact vy_join hs h6' hp
  · obtain ⟨r, s, rfl, -, -, hT⟩ := vl_TYc hT
    have h6' : s.length + 1 ≤ 6 := h6'
    unfold wpY_carryOut
    refine br_t (by decide) (vy_takes (t := 1) (by omega) rfl ?_)
    refine nm_r (vl_sb s.length 1) ⟨vp_in_nI (by omega) (by decide), nm_r (e' := nI r.1) (by rw [nI_clamp (by omega)]; exact hs.1.1) (br_t (by decide) (br_f (by decide) (br_f (by decide) (br_t (by decide) ?_))))⟩
    refine vy_turn hs h6' ?_
    intro C hx
    exact br_f (by decide) (br_f (by decide) (nm_r (nI_1 _) (hp _ _ hx)))
  · obtain ⟨r, s, rfl, -, -, hT⟩ := vl_TYc hT
    have h6' : s.length + 1 ≤ 6 := h6'
    unfold wpY_carryOut
    refine br_t (by decide) (vy_takes (t := 1) (by omega) rfl ?_)
    refine nm_r (vl_sb s.length 1) ⟨vp_in_nI (by omega) (by decide), nm_r (e' := nI r.1) (by rw [nI_clamp (by omega)]; exact hs.1.1) (br_t (by decide) (br_f (by decide) (br_f (by decide) (br_f (by decide) ?_))))⟩
    refine br_t (by decide) ?_
    refine vy_scan hs h6' ?_
    intro C hx
    exact br_f (by decide) (nm_r (nI_1 _) (hp _ _ hx))
  · obtain ⟨r, s, rfl, -, -, hT⟩ := vl_TYc hT
    have h6' : s.length + 1 ≤ 6 := h6'
    unfold wpY_carryOut
    refine br_t (by decide) (vy_takes (t := 1) (by omega) rfl ?_)
    refine nm_r (vl_sb s.length 1) ⟨vp_in_nI (by omega) (by decide), nm_r (e' := nI r.1) (by rw [nI_clamp (by omega)]; exact hs.1.1) (br_t (by decide) (br_f (by decide) (br_f (by decide) (br_f (by decide) ?_))))⟩
    refine br_f (by decide) (br_t (by decide) ?_)
    refine vy_sort hs h6' ?_
    intro C hx
    exact nm_r (nI_1 _) (hp _ _ hx)
end
section
/-! part 17: the reference's lanes -/
variable {cn hg oc tp dp : Int32} {sz inq kq aq ra fl ln va bg mn rs el os ou : Nat → Int32} {s : List vl_rw} {L : List vl_ln} {K : Nat → Nat}
theorem vl_F_s {K : Nat → Nat} {t : Nat} : (vl_st K (t + 1)).2.length = if K t = 19 ∨ K t = 20 then (vl_st K t).2.length + 1 else if K t = 21 then (vl_st K t).2.length - 1 else (vl_st K t).2.length := by
  show (vl_ss (K t) (vl_st K t)).2.length = _
  unfold vl_ss
  by_cases h1 : K t = 19 ∨ K t = 20
  · rw [if_pos h1, if_pos h1]; rfl
  · rw [if_neg h1, if_neg h1]
    show (if K t = 21 then (vl_st K t).2.tail else (vl_st K t).2).length = _
    by_cases h2 : K t = 21
    · rw [if_pos h2, if_pos h2, List.length_tail]
    · rw [if_neg h2, if_neg h2]
theorem vy_endOf {post : Int32 → Prop} {n : Nat} (hn : n ≤ 40) (hF : (vl_st K n).2 = []) (hK : ∀ t, t < n → kq t = nI (K t) ∧ K t < 22) :
    ∀ d t o, t + d = n → o + 1 ≤ (vl_st K t).2.length → o + d ≤ 100 → (∀ e, e + 1 = vl_sk K d t (o + 1) → post (nI e)) → wY_endOf_6 post (nI n) hg oc tp dp sz inq kq aq ra fl ln va bg mn rs el os ou (d + 1) (nI o) (nI t) := by
  intro d
  induction d with
  | zero =>
    intro t o ht ho hod hp
    have : t = n := by omega
    subst this
    rw [hF] at ho
    exact absurd ho (by show ¬ o + 1 ≤ 0; omega)
  | succ d ih =>
    intro t o ht ho hod hp
    obtain ⟨e1, e2⟩ := hK t (by omega)
    have hFs := vl_F_s (K := K) (t := t)
    have hp : ∀ e, e + 1 = vl_sk K d (t + 1) (if K t = 19 ∨ K t = 20 then o + 2 else if K t = 21 then o else o + 1) → post (nI e) := hp
    have ec : (nI t).toNatClampNeg = t := nI_clamp (by omega)
    have hv : vp_in (nI t) 40 := vp_in_nI (by omega) (by decide)
    have go31 : (K t = 21 → 1 ≤ o) → wY_endOf_31 post (wY_endOf_6 post (nI n) hg oc tp dp sz inq kq aq ra fl ln va bg mn rs el os ou (d + 1)) (nI o) (nI t) (nI n) hg oc tp dp sz inq kq aq ra fl ln va bg mn rs el os ou := by
      intro h21
      unfold wY_endOf_31
      rw [ec, e1]
      refine ⟨hv, pk_eq (K t) 21 ?_ ?_⟩
      · intro hk
        have ho1 := h21 hk
        rw [if_neg (by omega), if_pos hk] at hp
        rw [if_neg (by omega), if_pos hk] at hFs
        obtain ⟨o', rfl⟩ : ∃ o', o = o' + 1 := ⟨o - 1, by omega⟩
        exact nm_r (nI_pred o') (nm_r (nI_1 _) (ih (t + 1) o' (by omega) (by omega) (by omega) hp))
      · intro hk
        refine ⟨hv, pk_eq (K t) 19 ?_ ?_⟩
        · intro hk2
          rw [if_pos (Or.inl hk2)] at hp hFs
          exact nm_r (nI_1 _) (nm_r (nI_1 _) (ih (t + 1) (o + 1) (by omega) (by omega) (by omega) hp))
        · intro hk2
          refine ⟨hv, pk_eq (K t) 20 ?_ ?_⟩
          · intro hk3
            rw [if_pos (Or.inr hk3)] at hp hFs
            exact nm_r (nI_1 _) (nm_r (nI_1 _) (ih (t + 1) (o + 1) (by omega) (by omega) (by omega) hp))
          · intro hk3
            rw [if_neg (by omega), if_neg hk] at hp hFs
            exact nm_r (nI_1 _) (ih (t + 1) o (by omega) (by omega) (by omega) hp)
    refine br_f (nI_ge (by omega) (by omega)) ⟨hv, ?_⟩
    rw [ec, e1]
    refine pk_eq (K t) 21 ?_ ?_
    · intro hk
      refine br_c ?_ ?_
      · intro z
        have z : o = 0 := (vl_z (by omega)).mp z
        subst z
        rw [if_neg (by omega), if_pos hk, vl_sk0] at hp
        exact hp t rfl
      · intro z
        exact go31 (fun _ => by
          have : ¬ o = 0 := fun w => z (by rw [w]; rfl)
          omega)
    · intro hk
      exact go31 (fun w => absurd w hk)
theorem vy_begin0 {post : Int32 → SY → Prop} {n t : Nat} {r : vl_rw} (hn : n ≤ 40) (hF : (vl_st K n).2 = []) (hK : ∀ t, t < n → kq t = nI (K t) ∧ K t < 22) (ht : t < n) (hk : K t = 19 ∨ K t = 20) (hs : vl_xS va ln (r :: s)) (hl : s.length + 1 ≤ 6) (h0 : r.1 = 0)
    (hp : post (nI (vl_E K n (t + 1) 1)) (nI n, hg, oc, nI (s.length + 1), dp, sz, inq, kq, aq, ra, fl, ln, va, bg, mn, rs, el, os, ou)) : wpY_begin post (nI n, hg, oc, nI (s.length + 1), dp, sz, inq, kq, aq, ra, fl, ln, va, bg, mn, rs, el, os, ou) (nI t) := by
  obtain ⟨⟨g1, g2, g3⟩, g4⟩ := hs
  unfold wpY_begin
  refine nm_r (nI_pred _) ⟨vp_in_nI (by omega) (by decide), ?_⟩
  rw [nI_clamp (by omega), g1, h0]
  refine br_t rfl (nm_r (nI_1 _) ?_)
  unfold wpY_endOf
  refine nm_r (nI_1 _) ⟨n - (t + 1) + 1, vy_endOf hn hF hK (n - (t + 1)) (t + 1) 0 (by omega) ?_ (by omega) ?_⟩
  · rw [vl_F_s, if_pos hk]; omega
  · intro e he
    rw [nI_1]
    have : vl_E K n (t + 1) 1 = e + 1 := he.symm
    rw [this] at hp
    exact hp
theorem vy_begin1 {post : Int32 → SY → Prop} {t : Nat} {r : vl_rw} (hs : vl_xS va ln (r :: s)) (hL : vl_yL rs mn el bg os ou L) (hl : s.length + 1 ≤ 6) (hL2 : L.length < 2) (h0 : ¬ r.1 = 0)
    (hp : ∀ a1 a2 a3 a4 a5, vl_yL a1 a2 a3 a4 a5 ou ((t, r.1, r.2, 0, 0, fun _ => 0) :: L) → post (nI (t + 1)) (cn, hg, oc, nI s.length, nI (L.length + 1), sz, inq, kq, aq, ra, fl, ln, va, a4, a2, a1, a3, a5, ou)) :
    wpY_begin post (cn, hg, oc, nI (s.length + 1), nI L.length, sz, inq, kq, aq, ra, fl, ln, va, bg, mn, rs, el, os, ou) (nI t) := by
  obtain ⟨⟨g1, g2, g3⟩, g4⟩ := hs
  unfold wpY_begin
  simp (disch := omega) only [nI_pred, nI_clamp, vl_in, forall_eq, true_and, g1]
  refine br_f (by rw [vl_z (by omega)]; exact h0) ?_
  refine ⟨8 + 1, vl_copy (W := fun q p b => wY_begin_90 post (nI t) cn hg oc (nI s.length) (nI L.length) q (nI p) sz inq kq aq ra fl ln va (upd bg L.length (nI t)) (upd mn L.length (nI r.1)) (b) (upd el L.length 0) (upd os L.length 0) ou) (src := fun p => va (8 * s.length + p)) (a := rs) (o := 8 * L.length) (c := 8) ?_ ?_⟩
  · intro q b h1 h2
    refine br_t (by decide) (nm_r (nI_1 _) ?_)
    rw [nI_1]
    refine hp _ _ _ _ _ ⟨⟨⟨g2, by omega, Nat.le_refl _⟩, pk_us, pk_us, pk_us, pk_us, fun p hpp => (h1 p (by omega)).trans (g3 p hpp), fun p hpp => by omega⟩, ?_⟩
    exact vl_yL_congr hL (fun j hj => h2 j (Or.inl hj)) (fun j hj => pk_un (by omega)) (fun j hj => pk_un (by omega)) (fun j hj => pk_un (by omega)) (fun j hj => pk_un (by omega)) (fun j hj => rfl)
  · intro q p b hpc h1 h2 h3
    refine br_f (nI_ge (b := 8) hpc (by decide)) ?_
    simp (disch := omega) only [vl_8m, nI_add, nI_clamp, vl_in, forall_eq, true_and, nI_1]
    exact h3
theorem vy_eb113 {post : Int32 → SY → Prop} {t b m e c : Nat} {f g : Nat → Int32} (hL2 : L.length < 2) (hL : vl_yL rs mn el bg os ou L) (q1 : mn L.length = nI m) (q2 : el L.length = nI e) (q4 : bg L.length = nI b)
    (q5 : os L.length = nI c) (q6 : ∀ p, p < m → rs (8 * L.length + p) = f p) (q7 : ∀ p, p < c → ou (8 * L.length + p) = g p) (hm : m ≤ 8) (he : e < m) (hc : c ≤ e + 1) (hs : vl_xS va ln s) (hl : s.length < 6)
    (h1 : e + 1 < m → ∀ P, vl_yL rs mn P bg os ou ((b, m, f, e + 1, c, g) :: L) → post (nI (b + 1)) (cn, hg, oc, nI s.length, nI (L.length + 1), sz, inq, kq, aq, ra, fl, ln, va, bg, mn, rs, P, os, ou))
    (h2 : ¬ e + 1 < m → ∀ C Z P, vl_xS C Z ((c, g) :: s) → vl_yL rs mn P bg os ou L → post (nI (t + 1)) (cn, hg, oc, nI (s.length + 1), nI L.length, sz, inq, kq, aq, ra, fl, Z, C, bg, mn, rs, P, os, ou)) :
    wY_endBlock_113 post (nI t) (nI L.length) cn hg oc (nI s.length) (nI (L.length + 1)) sz inq kq aq ra fl ln va bg mn rs el os ou := by
  unfold wY_endBlock_113
  simp (disch := omega) only [nI_clamp, vl_in, forall_eq, true_and, q2, nI_1, pk_us, q1, q4, q5]
  have hL' : vl_yL rs mn (upd el L.length (nI (e + 1))) bg os ou L := vl_yL_congr hL (fun _ _ => rfl) (fun _ _ => rfl) (fun j hj => pk_un (by omega)) (fun _ _ => rfl) (fun _ _ => rfl) (fun _ _ => rfl)
  refine pk_le m (e + 1) ?_ ?_ rfl rfl (by omega) (by omega)
  · intro hz
    refine ⟨8 + 1, vl_copy (W := fun q p b => wY_endBlock_165 post (nI t) (nI L.length) cn hg oc (nI s.length) (nI (L.length + 1)) q (nI p) sz inq kq aq ra fl (upd ln s.length (nI c)) (b) bg mn rs (upd el L.length (nI (e + 1))) os ou) (src := fun p => ou (8 * L.length + p)) (a := va) (o := 8 * s.length) (c := 8) ?_ ?_⟩
    · intro q b' g1 g2
      refine br_t (by decide) (nm_r (nI_1 _) (nm_r (nI_pred _) ?_))
      rw [nI_1]
      exact h2 (by omega) _ _ _ (vl_xS_push hs (by show c ≤ 8; omega) pk_us (fun p hpp => (g1 p (by have : p < c := hpp; omega)).trans (q7 p hpp)) (fun j hj => g2 j (Or.inl hj)) (fun j hj => pk_un (by omega))) hL'
    · intro q p b' hpc g1 g2 h3
      refine br_f (nI_ge (b := 8) hpc (by decide)) ?_
      simp (disch := omega) only [vl_8m, nI_add, nI_clamp, vl_in, forall_eq, true_and, nI_1]
      exact h3
  · intro hz
    exact h1 hz _ ⟨⟨⟨hm, hz, hc⟩, q1, pk_us, q4, q5, q6, q7⟩, hL'⟩
theorem vy_endBlock {post : Int32 → SY → Prop} {n t b m e c : Nat} {f g : Nat → Int32} {v : vl_rw} (hn : n ≤ 40) (hKq : ∀ t, t < n → kq t = nI (K t)) (hb : b < n) (hs : vl_xS va ln (v :: s)) (hv : v.1 = 1) (hL : vl_yL rs mn el bg os ou ((b, m, f, e, c, g) :: L)) (hK : K b = 19 ∨ K b = 20) (hl : s.length < 6) (hL2 : L.length < 2)
    (h1 : e + 1 < m → ∀ P M Q, vl_yL rs mn P bg Q M ((b, m, f, e + 1, (vl_mk K b c f g e (v.2 0)).1, (vl_mk K b c f g e (v.2 0)).2) :: L) → post (nI (b + 1)) (cn, hg, oc, nI s.length, nI (L.length + 1), sz, inq, kq, aq, ra, fl, ln, va, bg, mn, rs, P, Q, M))
    (h2 : ¬ e + 1 < m → ∀ C Z P M Q, vl_xS C Z (vl_mk K b c f g e (v.2 0) :: s) → vl_yL rs mn P bg Q M L → post (nI (t + 1)) (cn, hg, oc, nI (s.length + 1), nI L.length, sz, inq, kq, aq, ra, fl, Z, C, bg, mn, rs, P, Q, M)) :
    wpY_endBlock post (cn, hg, oc, nI (s.length + 1), nI (L.length + 1), sz, inq, kq, aq, ra, fl, ln, va, bg, mn, rs, el, os, ou) (nI t) := by
  have e0 : va (8 * s.length) = v.2 0 := vl_xS_0 hs hv
  obtain ⟨⟨⟨b1, b2, b3⟩, q1, q2, q4, q5, q6, q7⟩, hL'⟩ := hL
  have made : ∀ w, vl_mk K b c f g e (v.2 0) = (c + 1, upd g c w) → wY_endBlock_102 post (nI t) (nI L.length) w (nI (8 * L.length + c)) cn hg oc (nI s.length) (nI (L.length + 1)) sz inq kq aq ra fl ln va bg mn rs el os ou := by
    intro w ew
    rw [ew] at h1 h2
    unfold wY_endBlock_102
    simp (disch := omega) only [nI_clamp, vl_in, forall_eq, true_and, q5, nI_1]
    refine vy_eb113 (c := c + 1) (g := upd g c w) hL2 ?_ q1 q2 q4 pk_us q6 ?_ b1 b2 (by omega) hs.2 hl (fun hz P hx => h1 hz P _ _ hx) (fun hz C Z P hx hy => h2 hz C Z P _ _ hx hy)
    · exact vl_yL_congr hL' (fun _ _ => rfl) (fun _ _ => rfl) (fun _ _ => rfl) (fun _ _ => rfl) (fun j hj => pk_un (by omega)) (fun j hj => pk_un (by omega))
    · intro p hp
      by_cases ep : p = c
      · subst ep; rw [pk_us, pk_us]
      · rw [pk_un (by omega), pk_un ep]; exact q7 p (by omega)
  unfold wpY_endBlock
  simp (disch := omega) only [nI_pred, vl_8m, nI_clamp, vl_in, forall_eq, true_and, e0, q4, hKq b hb]
  refine pk_eq (K b) 20 ?_ ?_ rfl rfl (by omega) (by omega)
  · intro hk
    refine br_f (by decide) (br_c ?_ ?_)
    · intro z
      have ew : vl_mk K b c f g e (v.2 0) = (c, g) := by unfold vl_mk; rw [if_pos ⟨hk, z⟩]
      rw [ew] at h1 h2
      exact vy_eb113 (c := c) (g := g) hL2 hL' q1 q2 q4 q5 q6 q7 b1 b2 (by omega) hs.2 hl (fun hz P hx => h1 hz P _ _ hx) (fun hz C Z P hx hy => h2 hz C Z P _ _ hx hy)
    · intro z
      unfold wY_endBlock_62
      simp (disch := omega) only [nI_clamp, q2, q5, vl_8m, nI_add, vl_in, true_and]
      refine br_f (by decide) ?_
      rw [q6 e (by omega)]
      exact made (f e) (by unfold vl_mk; rw [if_neg (fun w => z w.2), if_pos hk])
  · intro hk
    refine br_t rfl ?_
    unfold wY_endBlock_62
    simp (disch := omega) only [nI_clamp, q2, q5, vl_8m, nI_add, vl_in, true_and]
    refine br_t True.intro ?_
    exact made (v.2 0) (by unfold vl_mk; rw [if_neg (fun w => hk w.1), if_neg hk])
end
section
/-! part 18: the reference's loop over the tokens -/
variable {cn hg oc tp dp : Int32} {sz inq kq aq ra fl ln va bg mn rs el os ou : Nat → Int32} {s : List vl_rw} {L : List vl_ln} {K : Nat → Nat} {post : SY → Prop} {zs : Nat → Nat} {inp : Nat → Nat → Int32}
/-- the reference's working state stands for D (its next token stands in a variable of the walk) -/
def vy_R (D : vl_D) (tp dp : Int32) (ln va bg mn rs el os ou : Nat → Int32) : Prop :=
  (tp = nI D.2.1.length ∧ dp = nI D.2.2.length) ∧ vl_xS va ln D.2.1 ∧ vl_yL rs mn el bg os ou D.2.2
theorem vy_loop {n : Nat} (h : vl_PG K aq n) (hn40 : n ≤ 40) (hn : (vl_st K n).2 = []) (hK : ∀ t, t < n → kq t = nI (K t)) (hz : ∀ i, i < 3 → zs i ≤ 8) (hi : vx_in inq sz zs inp) :
    ∀ f q D, vl_DI K n D → vl_pt K n D.2.2 D.1 ≤ f → q + f ≤ 2560 → ∀ tp dp ln va bg mn rs el os ou, vy_R D tp dp ln va bg mn rs el os ou →
    (∀ tp dp ln va bg mn rs el os ou, vy_R (vl_run K aq n zs inp f D) tp dp ln va bg mn rs el os ou → post (nI n, hg, oc, tp, dp, sz, inq, kq, aq, ra, fl, ln, va, bg, mn, rs, el, os, ou)) →
    wY_work_14 post (f + 1) (nI D.1) (nI q) (nI n) hg oc tp dp sz inq kq aq ra fl ln va bg mn rs el os ou := by
  intro f
  induction f with
  | zero =>
    intro q D hD hp hq tp dp ln va bg mn rs el os ou hR hpost
    obtain ⟨t, s, L⟩ := D
    have ht : ¬ t < n := fun ht => by
      have h1 := (vl_mv_ok (zs := zs) (inp := inp) h hn hz ht hD).2
      have h2 : vl_pt K n L t ≤ 0 := hp
      omega
    have ht2 : t ≤ n := hD.1
    obtain ⟨⟨rfl, rfl⟩, h3, h4⟩ := hR
    refine br_f (nI_ge (b := 10000) (by omega) (by decide)) ?_
    refine br_t (nI_le (by show n ≤ t; omega) (by show t < 2 ^ 31; omega)) ?_
    exact hpost _ _ _ _ _ _ _ _ _ _ ⟨⟨rfl, rfl⟩, h3, h4⟩
  | succ f ih =>
    intro q D hD hp hq tp dp ln va bg mn rs el os ou hR hpost
    obtain ⟨t, s, L⟩ := D
    have ht2 : t ≤ n := hD.1
    obtain ⟨⟨rfl, rfl⟩, h3, h4⟩ := hR
    change vl_xS va ln s at h3
    change vl_yL rs mn el bg os ou L at h4
    refine br_f (nI_ge (b := 10000) (by omega) (by decide)) ?_
    show (nI n ≤ nI t → _) ∧ (¬ nI n ≤ nI t → _)
    by_cases ht : t < n
    · have hm := vl_mv_ok (zs := zs) (inp := inp) h hn hz ht hD
      have er : vl_run K aq n zs inp (f + 1) (t, s, L) = vl_run K aq n zs inp f (vl_mv K aq n zs inp t s L) := if_pos ht
      rw [er] at hpost
      have hp' : vl_pt K n L t ≤ f + 1 := hp
      have hb := vl_bd h t (by omega)
      have hT : vl_TY (vl_st K t).1 s := hD.2.1
      have hLl : L.length = (vl_st K t).2.length := vl_LI_len hD.2.2
      have h6 : s.length ≤ 6 := by rw [vl_TYl hT]; exact hb.1
      have ho := h t ht
      have next : ∀ D', D' = vl_mv K aq n zs inp t s L → ∀ tp dp ln va bg mn rs el os ou, vy_R D' tp dp ln va bg mn rs el os ou → wY_work_14 post (f + 1) (nI D'.1) (nI (q + 1)) (nI n) hg oc tp dp sz inq kq aq ra fl ln va bg mn rs el os ou := by
        intro D' eD tp dp ln va bg mn rs el os ou hR
        subst eD
        exact ih (q + 1) _ hm.1 (by omega) (by omega) _ _ _ _ _ _ _ _ _ _ hR hpost
      refine br_f (nI_ge ht (by omega)) ⟨vp_in_nI (by omega) (by decide), ?_⟩
      rw [nI_clamp (show t < 2 ^ 31 by omega), hK t ht]
      refine nm_e ?_
      by_cases k1 : K t = 19 ∨ K t = 20
      · obtain ⟨r, s', rfl, h8, hL2, -, -⟩ := vl_mv_b h hn ht hD k1
        rw [List.length_cons] at h6
        have go : wY_work_48 post (wY_work_14 post (f + 1)) (nI t) (nI q) (nI n) hg oc (nI (s'.length + 1)) (nI L.length) sz inq kq aq ra fl ln va bg mn rs el os ou := by
          unfold wY_work_48
          by_cases h0 : r.1 = 0
          · have e : vl_mv K aq n zs inp t (r :: s') L = (vl_E K n (t + 1) 1, r :: s', L) := by
              unfold vl_mv
              rw [if_pos k1]
              exact if_pos h0
            refine vy_begin0 hn40 hn (fun t ht => ⟨hK t ht, (h t ht).1⟩) ht k1 h3 h6 h0 ?_
            exact nm_r (nI_1 q) (next _ e.symm _ _ _ _ _ _ _ _ _ _ ⟨⟨rfl, rfl⟩, h3, h4⟩)
          · have e : vl_mv K aq n zs inp t (r :: s') L = (t + 1, s', (t, r.1, r.2, 0, 0, fun _ => 0) :: L) := by
              unfold vl_mv
              rw [if_pos k1]
              exact if_neg h0
            refine vy_begin1 h3 h4 h6 hL2 h0 ?_
            intro a1 a2 a3 a4 a5 hx
            exact nm_r (nI_1 q) (next _ e.symm _ _ _ _ _ _ _ _ _ _ ⟨⟨rfl, rfl⟩, h3.2, hx⟩)
        refine pk_eq (K t) 19 (fun _ => go) (fun k3 => pk_eq (K t) 20 (fun _ => go) (fun k4 => ?_) rfl rfl (by omega) (by omega)) rfl rfl (by omega) (by omega)
        omega
      · by_cases k2 : K t = 21
        · obtain ⟨v, s', b, m, f', e, c, g, L', rfl, hv, rfl, ⟨b1, b2, b3⟩, -, -⟩ := vl_mv_e h ht hD k2
          rw [List.length_cons] at h6 hLl
          have hb2 := hb.2
          refine br_f (by rw [k2]; decide) (br_f (by rw [k2]; decide) (br_t (by rw [k2]; rfl) ?_))
          refine vy_endBlock hn40 hK (by omega) h3 hv h4 b2 (by omega) (by omega) ?_ ?_
          · intro h0 P M Q hx
            have e : vl_mv K aq n zs inp t (v :: s') ((b, m, f', e, c, g) :: L') = (b + 1, s', (b, m, f', e + 1, (vl_mk K b c f' g e (v.2 0)).1, (vl_mk K b c f' g e (v.2 0)).2) :: L') := by
              unfold vl_mv
              rw [if_neg k1, if_pos k2]
              exact if_pos h0
            exact nm_r (nI_1 q) (next _ e.symm _ _ _ _ _ _ _ _ _ _ ⟨⟨rfl, rfl⟩, h3.2, hx⟩)
          · intro h0 C Z P M Q hx hy
            have e : vl_mv K aq n zs inp t (v :: s') ((b, m, f', e, c, g) :: L') = (t + 1, vl_mk K b c f' g e (v.2 0) :: s', L') := by
              unfold vl_mv
              rw [if_neg k1, if_pos k2]
              exact if_neg h0
            exact nm_r (nI_1 q) (next _ e.symm _ _ _ _ _ _ _ _ _ _ ⟨⟨rfl, rfl⟩, hx, hy⟩)
        · have e : vl_mv K aq n zs inp t s L = (t + 1, vl_ap zs inp L (aq t) (K t) s, L) := by
            unfold vl_mv
            rw [if_neg k1, if_neg k2]
          have h22 := ho.1
          have hne : ∀ c : Nat, c < 22 → K t ≠ c → ¬ nI (K t) = nI c := fun c hc hx z => hx ((nI_eq (by omega) (by omega)).mp z)
          refine br_f (hne 19 (by omega) (by omega)) (br_f (hne 20 (by omega) (by omega)) (br_f (hne 21 (by omega) (by omega)) ⟨vp_in_nI (by omega) (by decide), ?_⟩))
          refine vy_simple (S := (vl_st K t).1) (F := (vl_st K t).2) ho (vl_k19 h22 k1 k2) hT hb.1 hLl hb.2 h3 h4 hi ?_
          intro C Z hx
          exact nm_r (nI_1 t) (nm_r (nI_1 q) (next _ e.symm _ _ _ _ _ _ _ _ _ _ ⟨⟨rfl, rfl⟩, hx, h4⟩))
    · have er : vl_run K aq n zs inp (f + 1) (t, s, L) = (t, s, L) := if_neg ht
      rw [er] at hpost
      refine br_t (nI_le (by omega) (by omega)) ?_
      exact hpost _ _ _ _ _ _ _ _ _ _ ⟨⟨rfl, rfl⟩, h3, h4⟩
theorem vy_work {n : Nat} {r : vl_rw} (h : vl_PG K aq n) (hn40 : n ≤ 40) (hn : (vl_st K n).2 = []) (hK : ∀ t, t < n → kq t = nI (K t)) (hi : vx_in inq sz zs inp)
    (hr : vl_run K aq n zs inp 2560 (0, [], []) = (n, [r], []))
    (hp : ∀ tp dp ln va bg mn rs el os ou, ln 0 = nI r.1 → (∀ p, p < r.1 → va p = r.2 p) → post (nI n, hg, oc, tp, dp, sz, inq, kq, aq, ra, fl, ln, va, bg, mn, rs, el, os, ou)) : wpY_work post (nI n, hg, oc, tp, dp, sz, inq, kq, aq, ra, fl, ln, va, bg, mn, rs, el, os, ou) := by
  have hD : vl_DI K n (0, [], []) := ⟨Nat.zero_le _, True.intro, rfl⟩
  have hpt : vl_pt K n [] 0 ≤ 2560 := by
    show 0 + 64 * (n - 0) ≤ 2560
    omega
  unfold wpY_work
  refine ⟨2560 + 1, vy_loop (zs := zs) (inp := inp) h hn40 hn hK (fun i h3 => (hi i h3).2.1) hi 2560 0 (0, [], []) hD hpt (by omega) 0 0 ln va bg mn rs el os ou ⟨⟨rfl, rfl⟩, True.intro, True.intro⟩ ?_⟩
  intro tp dp ln va bg mn rs el os ou hR
  rw [hr] at hR
  obtain ⟨-, ⟨⟨g1, g2, g3⟩, -⟩, -⟩ := hR
  refine hp _ _ _ _ _ _ _ _ _ _ g1 ?_
  intro p hpp
  have := g3 p hpp
  rw [show 8 * ([] : List vl_rw).length + p = p by show 8 * 0 + p = p; omega] at this
  exact this
end
section
/-! part 19: the component's sorts -/
variable {tc sc ob vc nt lc : Int32} {ic iz ki op so bb vC vS lC lS lP lK lT mC mS : Nat → Int32} {K : Nat → Nat} {S F R : List Nat}
theorem vl_sti {a b : Nat} (ha : a < 2 ^ 30) (hb : b < 2 ^ 30) : (nI a - nI b).toInt = (a : Int) - b := by
  rw [Int32.toInt_sub, nI_toInt (by omega), nI_toInt (by omega)]
  exact Int.bmod_eq_of_le (by omega) (by omega)
theorem vl_s1 (h i : Nat) : nI h - 1 - nI i = nI h - nI (i + 1) := by
  rw [← nI_1]
  grind
theorem vl_cmp {h i b : Nat} (hh : h < 1000) (hi : i < 1000) (hb : b < 1000) : nI h - 1 - nI i < nI b ↔ h < b + i + 1 := by
  rw [vl_s1, Int32.lt_iff_toInt_lt, vl_sti (by omega) (by omega), nI_toInt (by omega)]
  omega
theorem vx_how {post : Int32 → Prop} {k : Nat} (hk : k < 22) (hp : post (nI (vl_nd k).length)) : wpX_howManyTaken post (tc, sc, ob, vc, nt, lc, ic, iz, ki, op, so, bb, vC, vS, lC, lS, lP, lK, lT, mC, mS) (nI k) := by
  have c : k = 0 ∨ k = 1 ∨ k = 2 ∨ k = 3 ∨ k = 4 ∨ k = 5 ∨ k = 6 ∨ k = 7 ∨ k = 8 ∨ k = 9 ∨ k = 10 ∨ k = 11 ∨ k = 12 ∨ k = 13 ∨ k = 14 ∨ k = 15 ∨ k = 16 ∨ k = 17 ∨ k = 18 ∨ k = 19 ∨ k = 20 ∨ k = 21 := by omega
  unfold wpX_howManyTaken
  rcases c with rfl | rfl | rfl | rfl | rfl | rfl | rfl | rfl | rfl | rfl | rfl | rfl | rfl | rfl | rfl | rfl | rfl | rfl | rfl | rfl | rfl | rfl
  · refine br_f (by decide) (br_f (by decide) (br_t (by decide) ?_))
    exact hp
  · refine br_f (by decide) (br_f (by decide) (br_f (by decide) (br_t (by decide) ?_)))
    exact hp
  · refine br_f (by decide) (br_f (by decide) (br_f (by decide) (br_f (by decide) (br_t (by decide) ?_))))
    exact hp
  · refine br_f (by decide) (br_f (by decide) (br_f (by decide) (br_f (by decide) (br_f (by decide) (br_t (by decide) ?_)))))
    exact hp
  · refine br_f (by decide) (br_f (by decide) (br_f (by decide) (br_f (by decide) (br_f (by decide) (br_f (by decide) (br_t (by decide) ?_))))))
    exact hp
  · refine br_f (by decide) (br_f (by decide) (br_f (by decide) (br_f (by decide) (br_f (by decide) (br_f (by decide) (br_f (by decide) (br_t (by decide) ?_)))))))
    exact hp
  · refine br_f (by decide) (br_f (by decide) (br_f (by decide) (br_f (by decide) (br_f (by decide) (br_f (by decide) (br_f (by decide) (br_f (by decide) (br_t (by decide) ?_))))))))
    exact hp
  · refine br_f (by decide) (br_f (by decide) (br_f (by decide) (br_f (by decide) (br_f (by decide) (br_f (by decide) (br_f (by decide) (br_f (by decide) (br_f (by decide) (br_t (by decide) ?_)))))))))
    exact hp
  · refine br_f (by decide) (br_f (by decide) (br_f (by decide) (br_f (by decide) (br_f (by decide) (br_f (by decide) (br_f (by decide) (br_f (by decide) (br_f (by decide) (br_f (by decide) (br_t (by decide) ?_))))))))))
    exact hp
  · refine br_f (by decide) (br_f (by decide) (br_f (by decide) (br_f (by decide) (br_f (by decide) (br_f (by decide) (br_f (by decide) (br_f (by decide) (br_f (by decide) (br_f (by decide) (br_f (by decide) (br_t (by decide) ?_)))))))))))
    exact hp
  · refine br_f (by decide) (br_f (by decide) (br_f (by decide) (br_f (by decide) (br_f (by decide) (br_f (by decide) (br_f (by decide) (br_f (by decide) (br_f (by decide) (br_f (by decide) (br_f (by decide) (br_f (by decide) (br_t (by decide) ?_))))))))))))
    exact hp
  · refine br_f (by decide) (br_f (by decide) (br_f (by decide) (br_f (by decide) (br_f (by decide) (br_f (by decide) (br_f (by decide) (br_f (by decide) (br_f (by decide) (br_f (by decide) (br_f (by decide) (br_f (by decide) (br_f (by decide) (br_t (by decide) ?_)))))))))))))
    exact hp
  · refine br_f (by decide) (br_f (by decide) (br_f (by decide) (br_f (by decide) (br_f (by decide) (br_f (by decide) (br_f (by decide) (br_f (by decide) (br_f (by decide) (br_f (by decide) (br_f (by decide) (br_f (by decide) (br_f (by decide) (br_f (by decide) (br_t (by decide) ?_))))))))))))))
    exact hp
  · refine br_f (by decide) (br_f (by decide) (br_f (by decide) (br_f (by decide) (br_f (by decide) (br_f (by decide) (br_f (by decide) (br_f (by decide) (br_f (by decide) (br_f (by decide) (br_f (by decide) (br_f (by decide) (br_f (by decide) (br_f (by decide) (br_f (by decide) (br_t (by decide) ?_)))))))))))))))
    exact hp
  · refine br_f (by decide) (br_f (by decide) (br_f (by decide) (br_f (by decide) (br_f (by decide) (br_f (by decide) (br_f (by decide) (br_f (by decide) (br_f (by decide) (br_f (by decide) (br_f (by decide) (br_f (by decide) (br_f (by decide) (br_f (by decide) (br_f (by decide) (br_f (by decide) (br_t (by decide) ?_))))))))))))))))
    exact hp
  · refine br_f (by decide) (br_f (by decide) (br_f (by decide) (br_f (by decide) (br_f (by decide) (br_f (by decide) (br_f (by decide) (br_f (by decide) (br_f (by decide) (br_f (by decide) (br_f (by decide) (br_f (by decide) (br_f (by decide) (br_f (by decide) (br_f (by decide) (br_f (by decide) (br_f (by decide) (br_t (by decide) ?_)))))))))))))))))
    exact hp
  · exact br_f (by decide) (br_t (by decide) hp)
  · exact br_f (by decide) (br_t (by decide) hp)
  · exact br_f (by decide) (br_t (by decide) hp)
  · exact br_f (by decide) (br_t (by decide) hp)
  · exact br_f (by decide) (br_t (by decide) hp)
  · exact br_f (by decide) (br_t (by decide) hp)
theorem vx_given {post : Int32 → Prop} {k : Nat} (hk : k < 22) (hp : post (nI (vl_gr k))) : wpX_sortGiven post (tc, sc, ob, vc, nt, lc, ic, iz, ki, op, so, bb, vC, vS, lC, lS, lP, lK, lT, mC, mS) (nI k) := by
  unfold wpX_sortGiven
  refine pk_eq k 1 (fun h => ?_) (fun h => pk_lt k 14 (fun h2 => ?_) (fun h2 => ?_))
  · rw [show vl_gr k = 2 by unfold vl_gr; rw [if_pos (Or.inl h)]] at hp; exact hp
  · rw [show vl_gr k = 1 by unfold vl_gr; rw [if_neg (by omega)]] at hp; exact hp
  · rw [show vl_gr k = 2 by unfold vl_gr; rw [if_pos (Or.inr h2)]] at hp; exact hp
theorem vx_62 {post : SX → Prop} {k : Nat} (hk : k < 22) (hl : R.length < 6) (hp : post (tc, nI (R.length + 1), ob, vc, nt, lc, ic, iz, ki, op, upd so R.length (nI (vl_gr k)), bb, vC, vS, lC, lS, lP, lK, lT, mC, mS)) : wX_changeSorts_62 post (nI k) tc (nI R.length) ob vc nt lc ic iz ki op so bb vC vS lC lS lP lK lT mC mS := by
  unfold wX_changeSorts_62
  refine vx_given hk ?_
  simp (disch := omega) only [nI_clamp, vl_in, forall_eq, true_and, nI_1]
  exact hp
theorem vx_change {post : SX → Prop} {k : Nat} (hk : k < 22) (hf : vl_fd k (S, F)) (hr : vl_rm k (S, F)) (h6 : S.length ≤ 6) (hF2 : F.length ≤ 2) (hS : vl_xT nI so S) (hB : vl_xT nI bb F)
    (hp : ∀ a b, vl_xT nI a (vl_ss k (S, F)).1 → vl_xT nI b (vl_ss k (S, F)).2 → post (tc, nI (vl_ss k (S, F)).1.length, nI (vl_ss k (S, F)).2.length, vc, nt, lc, ic, iz, ki, op, a, b, vC, vS, lC, lS, lP, lK, lT, mC, mS)) : wpX_changeSorts post (tc, nI S.length, nI F.length, vc, nt, lc, ic, iz, ki, op, so, bb, vC, vS, lC, lS, lP, lK, lT, mC, mS) (nI k) := by
  obtain ⟨R, e, hb, g1, g2, g3⟩ := vl_ss_ok hf
  obtain ⟨r1, r2⟩ := hr
  have el : S.length = (vl_nd k).length + R.length := by rw [e, List.length_append]
  have hSR : vl_xT nI so R := by rw [e] at hS; exact vl_xT_drop hS
  have hR6 : R.length < 6 := by
    by_cases h3 : k < 3
    · have : S.length < 6 := r1 h3
      omega
    · have := vl_nd1 (k := k) (by omega)
      omega
  unfold wpX_changeSorts
  refine vx_how hk ?_
  refine nm_r (e' := nI R.length) (by rw [el, Nat.add_comm, pk_sub (by omega), Nat.add_sub_cancel]) ?_
  refine vx_bb hk ?_ ?_
  · intro hk2
    rw [g1 hk2] at hp
    have hF : F.length < 2 := r2 hk2
    refine br_f (by decide) ⟨vp_in_nI hF (by decide), ?_⟩
    rw [nI_clamp (by omega)]
    exact nm_e (nm_r (nI_1 _) (hp _ _ hSR (vl_xT_put hB rfl)))
  · intro hk2
    rw [g2 hk2] at hp
    refine br_t rfl ?_
    refine pk_eq k 21 ?_ ?_
    · intro h21
      rw [if_pos h21] at hp
      obtain ⟨q1, q2⟩ := g3 h21
      cases F with
      | nil => exact absurd rfl q1
      | cons x F =>
        refine nm_r (nI_pred _) ?_
        refine vx_62 hk hR6 ?_
        exact hp _ _ (vl_xT_put hSR rfl) hB.2
    · intro h21
      rw [if_neg h21] at hp
      refine vx_62 hk hR6 ?_
      exact hp _ _ (vl_xT_put hSR rfl) hB
theorem vx_rebuild {post : SX → Prop} {n : Nat} (h : vl_PG K op n) (hn40 : n ≤ 40) (hK : ∀ t, t < n → ki t = nI (K t))
    (hp : ∀ a b, vl_xT nI a (vl_st K n).1 → vl_xT nI b (vl_st K n).2 → post (nI n, nI (vl_st K n).1.length, nI (vl_st K n).2.length, vc, nt, lc, ic, iz, ki, op, a, b, vC, vS, lC, lS, lP, lK, lT, mC, mS)) : wpX_rebuildSorts post (nI n, sc, ob, vc, nt, lc, ic, iz, ki, op, so, bb, vC, vS, lC, lS, lP, lK, lT, mC, mS) := by
  have H : ∀ d t so bb, t + d = n → vl_xT nI so (vl_st K t).1 → vl_xT nI bb (vl_st K t).2 → wX_rebuildSorts_17 post (nI n) (d + 1) (nI t) (nI n) (nI (vl_st K t).1.length) (nI (vl_st K t).2.length) vc nt lc ic iz ki op so bb vC vS lC lS lP lK lT mC mS := by
    intro d
    induction d with
    | zero =>
      intro t so bb ht h1 h2
      have : t = n := by omega
      subst this
      exact br_t (nI_le (Nat.le_refl _) (by omega)) (hp _ _ h1 h2)
    | succ d ih =>
      intro t so bb ht h1 h2
      obtain ⟨o1, o2, o3, -⟩ := h t (by omega)
      obtain ⟨b1, b2⟩ := vl_bd h t (by omega)
      refine br_f (nI_ge (by omega) (by omega)) ⟨vp_in_nI (by omega) (by decide), ?_⟩
      rw [nI_clamp (by omega), hK t (by omega)]
      refine vx_change (S := (vl_st K t).1) (F := (vl_st K t).2) o1 o2 o3 b1 b2 h1 h2 ?_
      intro a b q1 q2
      exact nm_r (nI_1 _) (ih (t + 1) a b (by omega) q1 q2)
  unfold wpX_rebuildSorts
  exact ⟨n + 1, H n 0 so bb (by omega) True.intro True.intro⟩
theorem vl_getD12 : ∀ {S : List Nat} {i : Nat}, (∀ x, x ∈ S → x = 1 ∨ x = 2) → i < S.length → S.getD i 0 = 1 ∨ S.getD i 0 = 2 := by
  intro S
  induction S with
  | nil => intro i _ hi; exact absurd hi (by show ¬ i < 0; omega)
  | cons x S ih =>
    intro i h hi
    cases i with
    | zero => exact h x (List.mem_cons_self ..)
    | succ i => exact ih (fun y hy => h y (List.mem_cons_of_mem _ hy)) (by rw [List.length_cons] at hi; omega)
theorem vx_base {post : Int32 → Prop} (hF2 : F.length ≤ 2) (hB : vl_xT nI bb F) (hp : post (nI (vl_base F))) : wpX_innermostBase post (tc, sc, nI F.length, vc, nt, lc, ic, iz, ki, op, so, bb, vC, vS, lC, lS, lP, lK, lT, mC, mS) := by
  unfold wpX_innermostBase
  cases F with
  | nil => exact br_t rfl hp
  | cons x F =>
    rw [List.length_cons] at hF2 ⊢
    refine br_f (nI_ne0 (by omega) (by omega)) ?_
    rw [nI_pred, nI_clamp (by omega)]
    refine ⟨vp_in_nI (by omega) (by decide), ?_⟩
    rw [hB.1]
    exact hp
theorem vx_stands {post : Int32 → Prop} {i w : Nat} (hi : i < 3) (hw : w < 3) (h6 : S.length ≤ 6) (hF2 : F.length ≤ 2) (hS : vl_xT nI so S) (hB : vl_xT nI bb F) (h12 : ∀ x, x ∈ S → x = 1 ∨ x = 2) (hb : vl_base F ≤ S.length)
    (h1 : vl_sd S F i w → post 1) (h0 : ¬ vl_sd S F i w → post 0) : wpX_stands post (tc, nI S.length, nI F.length, vc, nt, lc, ic, iz, ki, op, so, bb, vC, vS, lC, lS, lP, lK, lT, mC, mS) (nI i) (nI w) := by
  unfold wpX_stands
  refine nm_e ?_
  refine vx_base hF2 hB ?_
  refine br_c ?_ ?_
  · intro z
    rw [vl_cmp (by omega) (by omega) (by omega)] at z
    exact h0 (fun q => by have := q.1; omega)
  · intro z
    rw [vl_cmp (by omega) (by omega) (by omega)] at z
    have e : nI S.length - 1 - nI i = nI (S.length - 1 - i) := by
      rw [vl_s1, pk_sub (by omega)]
      exact congrArg nI (by omega)
    have hx : S.getD i 0 < 3 := by
      have := vl_getD12 h12 (i := i) (by omega)
      omega
    rw [e, nI_clamp (by omega), vl_xT_get hS (by omega)]
    refine ⟨vp_in_nI (by omega) (by decide), pk_eq (S.getD i 0) w ?_ ?_ rfl rfl (by omega) (by omega)⟩
    · intro q; exact h1 ⟨by omega, q⟩
    · intro q; exact h0 (fun q2 => q q2.2)
end
section
/-! part 20: what the component finds -/
variable {tc sc ob vc nt lc : Int32} {ic iz ki op so bb vC vS lC lS lP lK lT mC mS : Nat → Int32} {K : Nat → Nat} {S F R : List Nat}
theorem vx_f2 {post : Int32 → Prop} {a b : Nat} (ha : a < 3) (hb3 : b < 3) (h6 : S.length ≤ 6) (hF2 : F.length ≤ 2) (hS : vl_xT nI so S) (hB : vl_xT nI bb F) (h12 : ∀ x, x ∈ S → x = 1 ∨ x = 2) (hb : vl_base F ≤ S.length)
    (h1 : (vl_sd S F 0 a ∧ vl_sd S F 1 b) → post 1) (h0 : ¬ (vl_sd S F 0 a ∧ vl_sd S F 1 b) → post 0) :
    wpX_stands (fun r => ((r = 0 → post 0) ∧ (¬ r = 0 → wpX_stands (fun r => ((r = 0 → post 0) ∧ (¬ r = 0 → post 1))) (tc, nI S.length, nI F.length, vc, nt, lc, ic, iz, ki, op, so, bb, vC, vS, lC, lS, lP, lK, lT, mC, mS) (nI 1) (nI b)))) (tc, nI S.length, nI F.length, vc, nt, lc, ic, iz, ki, op, so, bb, vC, vS, lC, lS, lP, lK, lT, mC, mS) (nI 0) (nI a) := by
  refine vx_stands (by omega) ha h6 hF2 hS hB h12 hb ?_ ?_
  · intro q1
    refine br_f (by decide) ?_
    refine vx_stands (by omega) hb3 h6 hF2 hS hB h12 hb ?_ ?_
    · intro q2; exact br_f (by decide) (h1 ⟨q1, q2⟩)
    · intro q2; exact br_t rfl (h0 (fun q => q2 q.2))
  · intro q1; exact br_t rfl (h0 (fun q => q1 q.1))
theorem vx_f1 {post : Int32 → Prop} {a : Nat} (ha : a < 3) (h6 : S.length ≤ 6) (hF2 : F.length ≤ 2) (hS : vl_xT nI so S) (hB : vl_xT nI bb F) (h12 : ∀ x, x ∈ S → x = 1 ∨ x = 2) (hb : vl_base F ≤ S.length)
    (h1 : vl_sd S F 0 a → post 1) (h0 : ¬ vl_sd S F 0 a → post 0) :
    wpX_stands (fun r => narrow .boolean (.int r) = .int r ∧ post r) (tc, nI S.length, nI F.length, vc, nt, lc, ic, iz, ki, op, so, bb, vC, vS, lC, lS, lP, lK, lT, mC, mS) (nI 0) (nI a) := by
  refine vx_stands (by omega) ha h6 hF2 hS hB h12 hb ?_ ?_
  · intro q1; exact ⟨rfl, h1 q1⟩
  · intro q1; exact ⟨rfl, h0 q1⟩
theorem vx_finds {post : Int32 → Prop} {k : Nat} (hk : k < 22) (h6 : S.length ≤ 6) (hF2 : F.length ≤ 2) (hS : vl_xT nI so S) (hB : vl_xT nI bb F) (h12 : ∀ x, x ∈ S → x = 1 ∨ x = 2) (hb : vl_base F ≤ S.length)
    (h1 : vl_fd k (S, F) → post 1) (h0 : ¬ vl_fd k (S, F) → post 0) : wpX_findsWhatItTakes post (tc, nI S.length, nI F.length, vc, nt, lc, ic, iz, ki, op, so, bb, vC, vS, lC, lS, lP, lK, lT, mC, mS) (nI k) := by
  have c : k = 0 ∨ k = 1 ∨ k = 2 ∨ k = 3 ∨ k = 4 ∨ k = 5 ∨ k = 6 ∨ k = 7 ∨ k = 8 ∨ k = 9 ∨ k = 10 ∨ k = 11 ∨ k = 12 ∨ k = 13 ∨ k = 14 ∨ k = 15 ∨ k = 16 ∨ k = 17 ∨ k = 18 ∨ k = 19 ∨ k = 20 ∨ k = 21 := by omega
  unfold wpX_findsWhatItTakes
  rcases c with rfl | rfl | rfl | rfl | rfl | rfl | rfl | rfl | rfl | rfl | rfl | rfl | rfl | rfl | rfl | rfl | rfl | rfl | rfl | rfl | rfl | rfl
  · refine br_f (by decide) (br_f (by decide) (br_t (by decide) ?_))
    exact h1 (vl_fd_0 (by omega) hb)
  · refine br_f (by decide) (br_f (by decide) (br_f (by decide) (br_t (by decide) ?_)))
    exact h1 (vl_fd_0 (by omega) hb)
  · refine br_f (by decide) (br_f (by decide) (br_f (by decide) (br_f (by decide) (br_t (by decide) ?_))))
    exact h1 (vl_fd_0 (by omega) hb)
  · refine br_f (by decide) (br_f (by decide) (br_f (by decide) (br_f (by decide) (br_f (by decide) (br_t (by decide) ?_)))))
    rw [vl_fd_nn (by omega) (by omega)] at h1 h0
    exact vx_f2 (a := 1) (b := 1) (by omega) (by omega) h6 hF2 hS hB h12 hb h1 h0
  · refine br_f (by decide) (br_f (by decide) (br_f (by decide) (br_f (by decide) (br_f (by decide) (br_f (by decide) (br_t (by decide) ?_))))))
    rw [vl_fd_nn (by omega) (by omega)] at h1 h0
    exact vx_f2 (a := 1) (b := 1) (by omega) (by omega) h6 hF2 hS hB h12 hb h1 h0
  · refine br_f (by decide) (br_f (by decide) (br_f (by decide) (br_f (by decide) (br_f (by decide) (br_f (by decide) (br_f (by decide) (br_t (by decide) ?_)))))))
    rw [vl_fd_nn (by omega) (by omega)] at h1 h0
    exact vx_f2 (a := 1) (b := 1) (by omega) (by omega) h6 hF2 hS hB h12 hb h1 h0
  · refine br_f (by decide) (br_f (by decide) (br_f (by decide) (br_f (by decide) (br_f (by decide) (br_f (by decide) (br_f (by decide) (br_f (by decide) (br_t (by decide) ?_))))))))
    rw [vl_fd_nn (by omega) (by omega)] at h1 h0
    exact vx_f2 (a := 1) (b := 1) (by omega) (by omega) h6 hF2 hS hB h12 hb h1 h0
  · refine br_f (by decide) (br_f (by decide) (br_f (by decide) (br_f (by decide) (br_f (by decide) (br_f (by decide) (br_f (by decide) (br_f (by decide) (br_f (by decide) (br_t (by decide) ?_)))))))))
    rw [vl_fd_nn (by omega) (by omega)] at h1 h0
    exact vx_f2 (a := 1) (b := 1) (by omega) (by omega) h6 hF2 hS hB h12 hb h1 h0
  · refine br_f (by decide) (br_f (by decide) (br_f (by decide) (br_f (by decide) (br_f (by decide) (br_f (by decide) (br_f (by decide) (br_f (by decide) (br_f (by decide) (br_f (by decide) (br_t (by decide) ?_))))))))))
    rw [vl_fd_nn (by omega) (by omega)] at h1 h0
    exact vx_f2 (a := 1) (b := 1) (by omega) (by omega) h6 hF2 hS hB h12 hb h1 h0
  · refine br_f (by decide) (br_f (by decide) (br_f (by decide) (br_f (by decide) (br_f (by decide) (br_f (by decide) (br_f (by decide) (br_f (by decide) (br_f (by decide) (br_f (by decide) (br_f (by decide) (br_t (by decide) ?_)))))))))))
    rw [vl_fd_9] at h1 h0
    refine vx_stands (i := 0) (w := 1) (by omega) (by omega) h6 hF2 hS hB h12 hb ?_ ?_
    · intro q1
      refine br_f (by decide) ?_
      refine vx_stands (i := 1) (w := 1) (by omega) (by omega) h6 hF2 hS hB h12 hb ?_ ?_
      · intro q2
        refine br_f (by decide) ?_
        refine vx_stands (i := 2) (w := 1) (by omega) (by omega) h6 hF2 hS hB h12 hb ?_ ?_
        · intro q3; exact br_f (by decide) (h1 ⟨q1, q2, q3⟩)
        · intro q3; exact br_t rfl (h0 (fun q => q3 q.2.2))
      · intro q2; exact br_t rfl (h0 (fun q => q2 q.2.1))
    · intro q1; exact br_t rfl (h0 (fun q => q1 q.1))
  · refine br_f (by decide) (br_f (by decide) (br_f (by decide) (br_f (by decide) (br_f (by decide) (br_f (by decide) (br_f (by decide) (br_f (by decide) (br_f (by decide) (br_f (by decide) (br_f (by decide) (br_f (by decide) (br_t (by decide) ?_))))))))))))
    rw [vl_fd_r (by omega)] at h1 h0
    exact vx_f1 (a := 2) (by omega) h6 hF2 hS hB h12 hb h1 h0
  · refine br_f (by decide) (br_f (by decide) (br_f (by decide) (br_f (by decide) (br_f (by decide) (br_f (by decide) (br_f (by decide) (br_f (by decide) (br_f (by decide) (br_f (by decide) (br_f (by decide) (br_f (by decide) (br_f (by decide) (br_t (by decide) ?_)))))))))))))
    rw [vl_fd_r (by omega)] at h1 h0
    exact vx_f1 (a := 2) (by omega) h6 hF2 hS hB h12 hb h1 h0
  · refine br_f (by decide) (br_f (by decide) (br_f (by decide) (br_f (by decide) (br_f (by decide) (br_f (by decide) (br_f (by decide) (br_f (by decide) (br_f (by decide) (br_f (by decide) (br_f (by decide) (br_f (by decide) (br_f (by decide) (br_f (by decide) (br_t (by decide) ?_))))))))))))))
    rw [vl_fd_r (by omega)] at h1 h0
    exact vx_f1 (a := 2) (by omega) h6 hF2 hS hB h12 hb h1 h0
  · refine br_f (by decide) (br_f (by decide) (br_f (by decide) (br_f (by decide) (br_f (by decide) (br_f (by decide) (br_f (by decide) (br_f (by decide) (br_f (by decide) (br_f (by decide) (br_f (by decide) (br_f (by decide) (br_f (by decide) (br_f (by decide) (br_f (by decide) (br_t (by decide) ?_)))))))))))))))
    rw [vl_fd_13] at h1 h0
    exact vx_f2 (a := 1) (b := 2) (by omega) (by omega) h6 hF2 hS hB h12 hb h1 h0
  · refine br_f (by decide) (br_f (by decide) (br_f (by decide) (br_f (by decide) (br_f (by decide) (br_f (by decide) (br_f (by decide) (br_f (by decide) (br_f (by decide) (br_f (by decide) (br_f (by decide) (br_f (by decide) (br_f (by decide) (br_f (by decide) (br_f (by decide) (br_f (by decide) (br_t (by decide) ?_))))))))))))))))
    rw [vl_fd_14] at h1 h0
    exact vx_f1 (a := 1) (by omega) h6 hF2 hS hB h12 hb h1 h0
  · refine br_f (by decide) (br_f (by decide) (br_f (by decide) (br_f (by decide) (br_f (by decide) (br_f (by decide) (br_f (by decide) (br_f (by decide) (br_f (by decide) (br_f (by decide) (br_f (by decide) (br_f (by decide) (br_f (by decide) (br_f (by decide) (br_f (by decide) (br_f (by decide) (br_f (by decide) (br_t (by decide) ?_)))))))))))))))))
    rw [vl_fd_15] at h1 h0
    exact vx_f2 (a := 2) (b := 2) (by omega) (by omega) h6 hF2 hS hB h12 hb h1 h0
  · refine br_f (by decide) (br_f (by decide) (br_f (by decide) (br_f (by decide) (br_f (by decide) (br_f (by decide) (br_f (by decide) (br_f (by decide) (br_f (by decide) (br_f (by decide) (br_f (by decide) (br_f (by decide) (br_f (by decide) (br_f (by decide) (br_f (by decide) (br_f (by decide) (br_f (by decide) (br_f (by decide) (br_t (by decide) ?_))))))))))))))))))
    rw [vl_fd_r (by omega)] at h1 h0
    exact vx_f1 (a := 2) (by omega) h6 hF2 hS hB h12 hb h1 h0
  · refine br_f (by decide) (br_f (by decide) (br_f (by decide) (br_f (by decide) (br_f (by decide) (br_f (by decide) (br_f (by decide) (br_f (by decide) (br_f (by decide) (br_f (by decide) (br_f (by decide) (br_f (by decide) (br_f (by decide) (br_f (by decide) (br_f (by decide) (br_f (by decide) (br_f (by decide) (br_f (by decide) (br_f (by decide) (br_t (by decide) ?_)))))))))))))))))))
    rw [vl_fd_r (by omega)] at h1 h0
    exact vx_f1 (a := 2) (by omega) h6 hF2 hS hB h12 hb h1 h0
  · refine br_f (by decide) (br_f (by decide) (br_f (by decide) (br_f (by decide) (br_f (by decide) (br_f (by decide) (br_f (by decide) (br_f (by decide) (br_f (by decide) (br_f (by decide) (br_f (by decide) (br_f (by decide) (br_f (by decide) (br_f (by decide) (br_f (by decide) (br_f (by decide) (br_f (by decide) (br_f (by decide) (br_f (by decide) (br_f (by decide) (br_t (by decide) ?_))))))))))))))))))))
    rw [vl_fd_r (by omega)] at h1 h0
    exact vx_f1 (a := 2) (by omega) h6 hF2 hS hB h12 hb h1 h0
  · refine br_f (by decide) (br_f (by decide) (br_f (by decide) (br_f (by decide) (br_f (by decide) (br_f (by decide) (br_f (by decide) (br_f (by decide) (br_f (by decide) (br_f (by decide) (br_f (by decide) (br_f (by decide) (br_f (by decide) (br_f (by decide) (br_f (by decide) (br_f (by decide) (br_f (by decide) (br_f (by decide) (br_f (by decide) (br_f (by decide) (br_f (by decide) (br_t (by decide) ?_)))))))))))))))))))))
    rw [vl_fd_r (by omega)] at h1 h0
    exact vx_f1 (a := 2) (by omega) h6 hF2 hS hB h12 hb h1 h0
  · refine br_f (by decide) (br_f (by decide) (br_f (by decide) (br_f (by decide) (br_f (by decide) (br_f (by decide) (br_f (by decide) (br_f (by decide) (br_f (by decide) (br_f (by decide) (br_f (by decide) (br_f (by decide) (br_f (by decide) (br_f (by decide) (br_f (by decide) (br_f (by decide) (br_f (by decide) (br_f (by decide) (br_f (by decide) (br_f (by decide) (br_f (by decide) (br_f (by decide) (br_t (by decide) ?_))))))))))))))))))))))
    rw [vl_fd_r (by omega)] at h1 h0
    exact vx_f1 (a := 2) (by omega) h6 hF2 hS hB h12 hb h1 h0
  · refine br_f (by decide) (br_f (by decide) (br_f (by decide) (br_f (by decide) (br_f (by decide) (br_f (by decide) (br_f (by decide) (br_f (by decide) (br_f (by decide) (br_f (by decide) (br_f (by decide) (br_f (by decide) (br_f (by decide) (br_f (by decide) (br_f (by decide) (br_f (by decide) (br_f (by decide) (br_f (by decide) (br_f (by decide) (br_f (by decide) (br_f (by decide) (br_f (by decide) (br_f (by decide) (br_t (by decide) ?_)))))))))))))))))))))))
    rw [vl_fd_21] at h1 h0
    by_cases hF : F = []
    · subst hF
      exact br_t (by decide) (h0 (fun q => q.1 rfl))
    · have hl : 0 < F.length := List.length_pos_iff.mpr hF
      refine br_f (nI_nle hl (by omega)) ?_
      refine vx_base hF2 hB ?_
      rw [pk_sub hb]
      refine pk_eq (S.length - vl_base F) 1 ?_ ?_ rfl rfl (by omega) (by omega)
      · intro e
        refine vx_stands (i := 0) (w := 1) (by omega) (by omega) h6 hF2 hS hB h12 hb ?_ ?_
        · intro q1; exact br_f (by decide) (h1 ⟨hF, by omega, q1⟩)
        · intro q1; exact br_t rfl (h0 (fun q => q1 q.2.2))
      · intro e; exact h0 (fun q => by have := q.2.1; omega)
theorem vx_room {post : Int32 → Prop} {k : Nat} (hk : k < 22) (h6 : S.length ≤ 6) (hF2 : F.length ≤ 2) (h1 : vl_rm k (S, F) → post 1) (h0 : ¬ vl_rm k (S, F) → post 0) : wpX_hasRoom post (tc, nI S.length, nI F.length, vc, nt, lc, ic, iz, ki, op, so, bb, vC, vS, lC, lS, lP, lK, lT, mC, mS) (nI k) := by
  unfold wpX_hasRoom
  have tn : ∀ Q : Int32 → Prop, (k < 3 → Q 1) → (¬ k < 3 → Q 0) → wpX_takesNothing Q (tc, nI S.length, nI F.length, vc, nt, lc, ic, iz, ki, op, so, bb, vC, vS, lC, lS, lP, lK, lT, mC, mS) (nI k) := by
    intro Q g1 g0
    unfold wpX_takesNothing
    exact pk_eq k 0 (fun e => g1 (by omega)) (fun e => pk_eq k 1 (fun e2 => g1 (by omega)) (fun e2 => pk_eq k 2 (fun e3 => g1 (by omega)) (fun e3 => g0 (by omega))))
  refine tn _ ?_ ?_
  · intro h3
    refine br_f (by decide) ?_
    refine pk_le 6 S.length ?_ ?_ rfl rfl (by omega) (by omega)
    · intro e; exact h0 (fun q => by have : S.length < 6 := q.1 h3; omega)
    · intro e; exact h1 ⟨fun _ => e, fun w => by omega⟩
  · intro h3
    refine br_t rfl ?_
    refine vx_bb hk ?_ ?_
    · intro hb
      refine br_f (by decide) ?_
      refine pk_le 2 F.length ?_ ?_ rfl rfl (by omega) (by omega)
      · intro e; exact h0 (fun q => by have : F.length < 2 := q.2 hb; omega)
      · intro e; exact h1 ⟨fun w => absurd w h3, fun _ => e⟩
    · intro hb
      exact br_t rfl (h1 ⟨fun w => absurd w h3, fun w => absurd w hb⟩)
/-- kind and operand are those of a token -/
def vl_good (a b : Int32) : Prop := ¬ a < 0 ∧ a ≤ 21 ∧ (a = 0 → ¬ b < -99 ∧ ¬ 99 < b) ∧ (a = 1 → ¬ b < 0 ∧ b ≤ 2)
theorem vl_32 {b : Int32} : b ≤ 2 ↔ ¬ 3 ≤ b := by
  have h2 : (2 : Int32).toInt = 2 := by decide
  have h3 : (3 : Int32).toInt = 3 := by decide
  rw [Int32.le_iff_toInt_le, Int32.le_iff_toInt_le, h2, h3]
  omega
theorem vx_isInput {post : Int32 → Prop} {b : Int32} (h1 : ¬ b < 0 → b ≤ 2 → post 1) (h0 : (b < 0 ∨ ¬ b ≤ 2) → post 0) : wpX_isInput post (tc, sc, ob, vc, nt, lc, ic, iz, ki, op, so, bb, vC, vS, lC, lS, lP, lK, lT, mC, mS) b := by
  unfold wpX_isInput
  refine br_c (fun z => h0 (Or.inl z)) (fun z => br_c (fun z2 => h0 (Or.inr (fun w => vl_32.mp w z2))) (fun z2 => h1 z (vl_32.mpr z2)))
theorem vx_isTok {post : Int32 → Prop} {a b : Int32} (h1 : vl_good a b → post 1) (h0 : ¬ vl_good a b → post 0) : wpX_isToken post (tc, sc, ob, vc, nt, lc, ic, iz, ki, op, so, bb, vC, vS, lC, lS, lP, lK, lT, mC, mS) a b := by
  unfold wpX_isToken
  refine br_c (fun z => h0 (fun q => q.1 z)) (fun z => br_c (fun z2 => br_c (fun e0 => br_c ?_ (fun z3 => br_c ?_ ?_)) (fun e0 => br_c (fun e1 => ?_) (fun e1 => ?_))) (fun z2 => h0 (fun q => z2 q.2.1)))
  · intro z3; exact h0 (fun q => (q.2.2.1 e0).1 z3)
  · intro z4; exact h0 (fun q => (q.2.2.1 e0).2 z4)
  · intro z4; exact h1 ⟨z, z2, fun _ => ⟨z3, z4⟩, fun e1 => absurd (e0.symm.trans e1) (by decide)⟩
  · refine vx_isInput ?_ ?_
    · intro w1 w2; exact ⟨rfl, h1 ⟨z, z2, fun e => absurd e e0, fun _ => ⟨w1, w2⟩⟩⟩
    · intro w; refine ⟨rfl, h0 (fun q => ?_)⟩
      obtain ⟨w1, w2⟩ := q.2.2.2 e1
      rcases w with w | w
      · exact w1 w
      · exact w w2
  · exact h1 ⟨z, z2, fun e => absurd e e0, fun e => absurd e e1⟩
end
section
/-! part 21: the reference's sorts, and what it finds -/
variable {cn hg oc tp dp : Int32} {sz inq kq aq ra fl ln va bg mn rs el os ou : Nat → Int32} {K : Nat → Nat} {S F R : List Nat}
theorem vl_ytk_nd {k : Nat} (hk : k < 21) : vl_ytk k = (vl_nd k).length := by
  have c : k = 0 ∨ k = 1 ∨ k = 2 ∨ k = 3 ∨ k = 4 ∨ k = 5 ∨ k = 6 ∨ k = 7 ∨ k = 8 ∨ k = 9 ∨ k = 10 ∨ k = 11 ∨ k = 12 ∨ k = 13 ∨ k = 14 ∨ k = 15 ∨ k = 16 ∨ k = 17 ∨ k = 18 ∨ k = 19 ∨ k = 20 := by omega
  rcases c with rfl | rfl | rfl | rfl | rfl | rfl | rfl | rfl | rfl | rfl | rfl | rfl | rfl | rfl | rfl | rfl | rfl | rfl | rfl | rfl | rfl <;> rfl
theorem vl_nb0 : vp_nar .boolean 0 = 0 := by decide
theorem vl_nb1 : vp_nar .boolean 1 = 1 := by decide
theorem vl_yb_nar (x : Nat) : vp_nar .boolean (vl_yb x) = vl_yb x := by
  unfold vl_yb
  split
  · exact vl_nb1
  · exact vl_nb0
theorem vy_gives {post : Int32 → Prop} {k : Nat} (hk : k < 22) (hp : post (vl_yb (vl_gr k))) : wpY_givesRow post (cn, hg, oc, tp, dp, sz, inq, kq, aq, ra, fl, ln, va, bg, mn, rs, el, os, ou) (nI k) := by
  unfold wpY_givesRow
  refine pk_eq k 1 (fun h => ?_) (fun h => pk_lt k 14 (fun h2 => ?_) (fun h2 => ?_))
  · rw [show vl_gr k = 2 by unfold vl_gr; rw [if_pos (Or.inl h)]] at hp; exact hp
  · rw [show vl_gr k = 1 by unfold vl_gr; rw [if_neg (by omega)]] at hp; exact hp
  · rw [show vl_gr k = 2 by unfold vl_gr; rw [if_pos (Or.inr h2)]] at hp; exact hp
theorem vy_check {post : SY → Prop} {n : Nat} (h : vl_PG K aq n) (hn40 : n ≤ 40) (hK : ∀ t, t < n → kq t = nI (K t))
    (hp : ∀ a b, vl_xT vl_yb a (vl_st K n).1 → vl_xT nI b (vl_st K n).2 → post (nI n, nI (vl_st K n).1.length, nI (vl_st K n).2.length, tp, dp, sz, inq, kq, aq, a, b, ln, va, bg, mn, rs, el, os, ou)) : wpY_check post (nI n, hg, oc, tp, dp, sz, inq, kq, aq, ra, fl, ln, va, bg, mn, rs, el, os, ou) := by
  have H : ∀ d t ra fl, t + d = n → vl_xT vl_yb ra (vl_st K t).1 → vl_xT nI fl (vl_st K t).2 → wY_check_12 post (nI n) tp dp (d + 1) (nI t) (nI (vl_st K t).1.length) (nI (vl_st K t).2.length) sz inq kq aq ra fl ln va bg mn rs el os ou := by
    intro d
    induction d with
    | zero =>
      intro t ra fl ht h1 h2
      have : t = n := by omega
      subst this
      exact br_t (nI_le (Nat.le_refl _) (by omega)) (hp _ _ h1 h2)
    | succ d ih =>
      intro t ra fl ht h1 h2
      obtain ⟨o1, o2, ⟨r1, r2⟩, -⟩ := h t (by omega)
      obtain ⟨b1, b2⟩ := vl_bd h t (by omega)
      have ih' := ih (t + 1)
      rw [vl_st_s] at ih'
      rcases hst : vl_st K t with ⟨S, F⟩
      rw [hst] at h1 h2 o2 r1 r2 b1 b2 ih'
      change vl_xT vl_yb ra S at h1
      change vl_xT nI fl F at h2
      change S.length ≤ 6 at b1
      change F.length ≤ 2 at b2
      obtain ⟨R, e, hb, g1, g2, g3⟩ := vl_ss_ok o2
      have eL : S.length = (vl_nd (K t)).length + R.length := by rw [e, List.length_append]
      have hSR : vl_xT vl_yb ra R := by rw [e] at h1; exact vl_xT_drop h1
      have hR6 : R.length < 6 := by
        by_cases h3 : K t < 3
        · have : S.length < 6 := r1 h3
          omega
        · have := vl_nd1 (k := K t) (by omega)
          omega
      have et : (nI t).toNatClampNeg = t := nI_clamp (by omega)
      refine br_f (nI_ge (by omega) (by omega)) ⟨vp_in_nI (by omega) (by decide), ?_⟩
      rw [et, hK t (by omega)]
      refine nm_e ?_
      show wpY_takes _ _ (nI (K t))
      by_cases k1 : K t = 19 ∨ K t = 20
      · rw [g1 k1] at ih'
        have hF : F.length < 2 := r2 k1
        refine vy_takes o1 (vl_ytk_nd (by omega)) ?_
        refine nm_r (e' := nI R.length) (by show nI S.length - _ = _; rw [eL, Nat.add_comm, pk_sub (by omega), Nat.add_sub_cancel]) ?_
        have go : wY_check_53 post (wY_check_12 post (nI n) tp dp (d + 1)) (nI t) (nI n) (nI R.length) (nI F.length) tp dp sz inq kq aq ra fl ln va bg mn rs el os ou := by
          unfold wY_check_53
          rw [nI_clamp (by omega)]
          exact ⟨vp_in_nI hF (by decide), nm_e (nm_r (nI_1 _) (nm_r (nI_1 _) (ih' _ _ (by omega) hSR (vl_xT_put h2 rfl))))⟩
        refine pk_eq (K t) 19 (fun _ => go) (fun k3 => pk_eq (K t) 20 (fun _ => go) (fun k4 => ?_) rfl rfl (by omega) (by omega)) rfl rfl (by omega) (by omega)
        omega
      · rw [g2 k1] at ih'
        have hne : ∀ c : Nat, c < 22 → K t ≠ c → ¬ nI (K t) = nI c := fun c hc hx z => hx ((nI_eq (by omega) (by omega)).mp z)
        by_cases k2 : K t = 21
        · rw [if_pos k2, k2] at ih'
          obtain ⟨q1, q2⟩ := g3 k2
          have en : (vl_nd (K t)).length = 1 := by rw [k2]; rfl
          refine vy_takes (t := 0) o1 (by rw [k2]; rfl) ?_
          refine nm_r (e' := nI (R.length + 1)) (by show nI S.length - nI 0 = _; rw [pk_sub (by omega)]; exact congrArg nI (by omega)) ?_
          refine br_f (hne 19 (by omega) (by omega)) (br_f (hne 20 (by omega) (by omega)) (br_t (by rw [k2]; rfl) ?_))
          cases F with
          | nil => exact absurd rfl q1
          | cons x F =>
            refine nm_r (nI_pred _) ?_
            rw [nI_pred, nI_clamp (by omega), vl_nb1]
            exact ⟨vp_in_nI hR6 (by decide), nm_e (nm_r (nI_1 _) (ih' _ _ (by omega) (vl_xT_put hSR rfl) h2.2))⟩
        · rw [if_neg k2] at ih'
          refine vy_takes o1 (vl_ytk_nd (by omega)) ?_
          refine nm_r (e' := nI R.length) (by show nI S.length - _ = _; rw [eL, Nat.add_comm, pk_sub (by omega), Nat.add_sub_cancel]) ?_
          refine br_f (hne 19 (by omega) (by omega)) (br_f (hne 20 (by omega) (by omega)) (br_f (hne 21 (by omega) (by omega)) ?_))
          refine vy_gives o1 ?_
          rw [nI_clamp (by omega), vl_yb_nar]
          exact ⟨vp_in_nI hR6 (by decide), nm_e (nm_r (nI_1 _) (nm_r (nI_1 _) (ih' _ _ (by omega) (vl_xT_put hSR rfl) h2)))⟩
  unfold wpY_check
  exact ⟨n + 1, H n 0 ra fl (by omega) True.intro True.intro⟩
/-- which sort the reference wants at its k-th place (from below) -/
def vl_wr (k j : Nat) : Nat := if k = 13 then (if j = 0 then 2 else 1) else if k ≤ 9 then 1 else if k = 14 then 1 else 2
theorem vy_wants {post : Int32 → Prop} {k j : Nat} (hk : k < 22) (hj : j < 10) (hp : post (vl_yb (vl_wr k j))) : wpY_wantsRow post (cn, hg, oc, tp, dp, sz, inq, kq, aq, ra, fl, ln, va, bg, mn, rs, el, os, ou) (nI k) (nI j) := by
  unfold wpY_wantsRow
  unfold vl_wr at hp
  refine pk_eq k 13 (fun h => ?_) (fun h => pk_le k 9 (fun h2 => ?_) (fun h2 => pk_eq k 14 (fun h3 => ?_) (fun h3 => ?_)))
  · rw [if_pos h] at hp
    refine pk_eq j 0 (fun e => ?_) (fun e => ?_)
    · rw [if_pos e] at hp; exact hp
    · rw [if_neg e] at hp; exact hp
  · rw [if_neg h, if_pos h2] at hp; exact hp
  · rw [if_neg h, if_neg (by omega), if_pos h3] at hp; exact hp
  · rw [if_neg h, if_neg (by omega), if_neg h3] at hp; exact hp
theorem vl_q1 {W : Nat → Nat} : vl_sd S F 0 (W 0) ↔ (vl_base F + 1 ≤ S.length ∧ ∀ i, i < 1 → S.getD (1 - 1 - i) 0 = W i) := by
  constructor
  · rintro ⟨h1, h2⟩
    refine ⟨by omega, fun i hi => ?_⟩
    have : i = 0 := by omega
    subst this
    exact h2
  · rintro ⟨h1, h2⟩
    exact ⟨by omega, h2 0 (by omega)⟩
theorem vl_q2 {W : Nat → Nat} : (vl_sd S F 0 (W 1) ∧ vl_sd S F 1 (W 0)) ↔ (vl_base F + 2 ≤ S.length ∧ ∀ i, i < 2 → S.getD (2 - 1 - i) 0 = W i) := by
  constructor
  · rintro ⟨⟨h1, h2⟩, ⟨h3, h4⟩⟩
    refine ⟨by omega, fun i hi => ?_⟩
    have : i = 0 ∨ i = 1 := by omega
    rcases this with rfl | rfl
    · exact h4
    · exact h2
  · rintro ⟨h1, h2⟩
    exact ⟨⟨by omega, h2 1 (by omega)⟩, ⟨by omega, h2 0 (by omega)⟩⟩
theorem vl_q3 {W : Nat → Nat} : (vl_sd S F 0 (W 2) ∧ vl_sd S F 1 (W 1) ∧ vl_sd S F 2 (W 0)) ↔ (vl_base F + 3 ≤ S.length ∧ ∀ i, i < 3 → S.getD (3 - 1 - i) 0 = W i) := by
  constructor
  · rintro ⟨⟨h1, h2⟩, ⟨h3, h4⟩, ⟨h5, h6⟩⟩
    refine ⟨by omega, fun i hi => ?_⟩
    have : i = 0 ∨ i = 1 ∨ i = 2 := by omega
    rcases this with rfl | rfl | rfl
    · exact h6
    · exact h4
    · exact h2
  · rintro ⟨h1, h2⟩
    exact ⟨⟨by omega, h2 2 (by omega)⟩, ⟨by omega, h2 1 (by omega)⟩, ⟨by omega, h2 0 (by omega)⟩⟩
theorem vl_fd_y {k : Nat} (hk : k < 21) (hb : vl_base F ≤ S.length) : vl_fd k (S, F) ↔ (vl_base F + vl_ytk k ≤ S.length ∧ ∀ i, i < vl_ytk k → S.getD (vl_ytk k - 1 - i) 0 = vl_wr k i) := by
  have c : k < 3 ∨ (3 ≤ k ∧ k < 9) ∨ k = 9 ∨ k = 13 ∨ k = 14 ∨ k = 15 ∨ (k = 10 ∨ k = 11 ∨ k = 12 ∨ k = 16 ∨ k = 17 ∨ k = 18 ∨ k = 19 ∨ k = 20) := by omega
  rcases c with c | ⟨c1, c2⟩ | rfl | rfl | rfl | rfl | c
  · have e : vl_ytk k = 0 := by unfold vl_ytk; rw [if_pos c]
    rw [e]
    exact iff_of_true (vl_fd_0 c hb) ⟨hb, fun i hi => by omega⟩
  · have e : vl_ytk k = 2 := by unfold vl_ytk; rw [if_neg (by omega), if_neg (by omega), if_neg (by omega), if_pos c2]
    have e2 : ∀ j, vl_wr k j = 1 := by intro j; unfold vl_wr; rw [if_neg (by omega), if_pos (by omega)]
    rw [e, vl_fd_nn c1 c2, ← vl_q2 (W := vl_wr k), e2, e2]
  · rw [vl_fd_9]; exact vl_q3 (W := vl_wr 9)
  · rw [vl_fd_13]; exact vl_q2 (W := vl_wr 13)
  · rw [vl_fd_14]; exact vl_q1 (W := vl_wr 14)
  · rw [vl_fd_15]; exact vl_q2 (W := vl_wr 15)
  · have e : vl_ytk k = 1 := by rcases c with rfl | rfl | rfl | rfl | rfl | rfl | rfl | rfl <;> rfl
    have e2 : vl_wr k 0 = 2 := by rcases c with rfl | rfl | rfl | rfl | rfl | rfl | rfl | rfl <;> rfl
    rw [e, vl_fd_r c, ← vl_q1 (W := vl_wr k), e2]
theorem vl_yb_inj {x y : Nat} (hx : x = 1 ∨ x = 2) (hy : y = 1 ∨ y = 2) : vl_yb x = vl_yb y ↔ x = y := by
  rcases hx with rfl | rfl <;> rcases hy with rfl | rfl <;> decide
theorem vl_wr12 (k j : Nat) : vl_wr k j = 1 ∨ vl_wr k j = 2 := by
  unfold vl_wr
  repeat' split
  all_goals first | exact Or.inl rfl | exact Or.inr rfl
theorem vy_found90 {post : Int32 → Prop} {k m : Nat} (hk : k < 22) (hm : m ≤ S.length) (hm3 : m ≤ 3) (h6 : S.length ≤ 6) (hS : vl_xT vl_yb ra S) (h12 : ∀ x, x ∈ S → x = 1 ∨ x = 2) :
    ∀ d j, j + d = m → (post 0 → wY_isFound_90 post (nI k) (nI m) cn (nI S.length) oc tp dp sz inq kq aq ra fl ln va bg mn rs el os ou (d + 1) 0 (nI j)) ∧
      (((∀ i, j ≤ i → i < m → S.getD (m - 1 - i) 0 = vl_wr k i) → post 1) → (¬ (∀ i, j ≤ i → i < m → S.getD (m - 1 - i) 0 = vl_wr k i) → post 0) → wY_isFound_90 post (nI k) (nI m) cn (nI S.length) oc tp dp sz inq kq aq ra fl ln va bg mn rs el os ou (d + 1) 1 (nI j)) := by
  intro d
  induction d with
  | zero =>
    intro j hj
    refine ⟨fun hp => br_t (nI_le (by omega) (by omega)) ⟨rfl, hp⟩, fun h1 _ => br_t (nI_le (by omega) (by omega)) ⟨rfl, h1 (fun i h2 h3 => by omega)⟩⟩
  | succ d ih =>
    intro j hj
    obtain ⟨i0, i1⟩ := ih (j + 1) (by omega)
    refine ⟨fun hp => br_f (nI_ge (by omega) (by omega)) (br_t rfl (nm_r (nI_1 _) (i0 hp))), fun h1 h0 => ?_⟩
    refine br_f (nI_ge (by omega) (by omega)) (br_f (by decide) ?_)
    have e : nI S.length - nI m + nI j = nI (S.length - 1 - (m - 1 - j)) := by
      rw [pk_sub hm, nI_add]
      exact congrArg nI (by omega)
    rw [e, nI_clamp (by omega), vl_xT_get hS (by omega)]
    refine ⟨vp_in_nI (by omega) (by decide), ?_⟩
    refine vy_wants hk (by omega) ?_
    have hx := vl_getD12 h12 (i := m - 1 - j) (by omega)
    by_cases hq : S.getD (m - 1 - j) 0 = vl_wr k j
    · refine br_t ((vl_yb_inj hx (vl_wr12 k j)).mpr hq) (nm_r (nI_1 _) (i1 ?_ ?_))
      · intro w
        refine h1 (fun i q1 q2 => ?_)
        by_cases ei : i = j
        · subst ei; exact hq
        · exact w i (by omega) q2
      · intro w
        exact h0 (fun v => w (fun i q1 q2 => v i (by omega) q2))
    · refine br_f (fun z => hq ((vl_yb_inj hx (vl_wr12 k j)).mp z)) (nm_r (nI_1 _) (i0 ?_))
      exact h0 (fun v => hq (v j (by omega) (by omega)))
theorem vy_isFound {post : Int32 → Prop} {k : Nat} (hk : k < 22) (h6 : S.length ≤ 6) (hF2 : F.length ≤ 2) (hS : vl_xT vl_yb ra S) (hB : vl_xT nI fl F) (h12 : ∀ x, x ∈ S → x = 1 ∨ x = 2) (hb : vl_base F ≤ S.length)
    (h1 : vl_fd k (S, F) → post 1) (h0 : ¬ vl_fd k (S, F) → post 0) : wpY_isFound post (cn, nI S.length, nI F.length, tp, dp, sz, inq, kq, aq, ra, fl, ln, va, bg, mn, rs, el, os, ou) (nI k) := by
  have go : wY_isFound_22 post (nI k) (nI (vl_base F)) cn (nI S.length) (nI F.length) tp dp sz inq kq aq ra fl ln va bg mn rs el os ou := by
    unfold wY_isFound_22
    refine pk_eq k 21 ?_ ?_
    · intro e
      subst e
      rw [vl_fd_21] at h1 h0
      by_cases hF : F = []
      · subst hF
        exact br_t (by decide) (h0 (fun q => q.1 rfl))
      · have hl : 0 < F.length := List.length_pos_iff.mpr hF
        refine br_f (nI_nle hl (by omega)) ?_
        rw [nI_1]
        refine pk_eq S.length (vl_base F + 1) ?_ ?_ rfl rfl (by omega) (by omega)
        · intro e
          rw [vl_sub1 _ (by omega), nI_clamp (by omega), show S.length - 1 = S.length - 1 - 0 by omega, vl_xT_get hS (by omega)]
          refine ⟨vp_in_nI (by omega) (by decide), ?_⟩
          have hx := vl_getD12 h12 (i := 0) (by omega)
          have ey := vl_yb_inj hx (Or.inl rfl : (1 : Nat) = 1 ∨ (1 : Nat) = 2)
          refine br_c ?_ ?_
          · intro z; exact h1 ⟨hF, e, by omega, ey.mp z⟩
          · intro z; exact h0 (fun q => z (ey.mpr q.2.2.2))
        · intro e; exact h0 (fun q => e q.2.1)
    · intro e
      rw [vl_fd_y (by omega) hb] at h1 h0
      refine vy_takes hk rfl ?_
      rw [pk_sub hb]
      have h3 : vl_ytk k ≤ 3 := by
        unfold vl_ytk
        repeat' split
        all_goals omega
      refine pk_le (vl_ytk k) (S.length - vl_base F) ?_ ?_ rfl rfl (by omega) (by omega)
      · intro z
        refine ⟨vl_ytk k + 1, (vy_found90 hk (by omega) h3 h6 hS h12 (vl_ytk k) 0 (by omega)).2 ?_ ?_⟩
        · intro w; exact h1 ⟨by omega, fun i hi => w i (by omega) hi⟩
        · intro w; exact h0 (fun q => w (fun i _ hi => q.2 i hi))
      · intro z; exact h0 (fun q => by have := q.1; omega)
  unfold wpY_isFound
  cases F with
  | nil => exact br_t rfl go
  | cons x F =>
    rw [List.length_cons] at hF2 ⊢
    refine br_f (nI_ne0 (by omega) (by omega)) ?_
    rw [nI_pred, nI_clamp (by omega), hB.1]
    exact ⟨vp_in_nI (by omega) (by decide), go⟩
end
section
/-! part 22: the relation, and the calls on the inputs -/
def vl_Inv (n : Nat) (K zs : Nat → Nat) (ic iz ki op so bb inq : Nat → Int32) : Prop :=
  n ≤ 40 ∧ vl_PG K op n ∧ (∀ t, t < n → ki t = nI (K t)) ∧ (∀ i, i < 3 → iz i = nI (zs i) ∧ zs i ≤ 8 ∧ ∀ p, p < zs i → ic (8 * i + p) = inq (8 * i + p)) ∧ vl_xT nI so (vl_st K n).1 ∧ vl_xT nI bb (vl_st K n).2
def i_Rel (_ : Nat) (u : SX) (v : SY) : Prop :=
  ∃ (n : Nat) (K zs : Nat → Nat) (vc nt lc : Int32) (ic iz ki op so bb vC vS lC lS lP lK lT mC mS : Nat → Int32) (hg oc tp dp : Int32) (inq ra fl ln va bg mn rs el os ou : Nat → Int32),
    u = (nI n, nI (vl_st K n).1.length, nI (vl_st K n).2.length, vc, nt, lc, ic, iz, ki, op, so, bb, vC, vS, lC, lS, lP, lK, lT, mC, mS) ∧ v = (nI n, hg, oc, tp, dp, iz, inq, ki, op, ra, fl, ln, va, bg, mn, rs, el, os, ou) ∧ vl_Inv n K zs ic iz ki op so bb inq
variable {n : Nat} {K zs : Nat → Nat} {tc sc ob vc nt lc : Int32} {ic iz ki op so bb vC vS lC lS lP lK lT mC mS : Nat → Int32} {cn hg oc tp dp : Int32} {sz inq kq aq ra fl ln va bg mn rs el os ou : Nat → Int32}
theorem vr_mk {k : Nat} (h : vl_Inv n K zs ic iz ki op so bb inq) : i_Rel k (nI n, nI (vl_st K n).1.length, nI (vl_st K n).2.length, vc, nt, lc, ic, iz, ki, op, so, bb, vC, vS, lC, lS, lP, lK, lT, mC, mS) (nI n, hg, oc, tp, dp, iz, inq, ki, op, ra, fl, ln, va, bg, mn, rs, el, os, ou) :=
  ⟨n, K, zs, vc, nt, lc, ic, iz, ki, op, so, bb, vC, vS, lC, lS, lP, lK, lT, mC, mS, hg, oc, tp, dp, inq, ra, fl, ln, va, bg, mn, rs, el, os, ou, rfl, rfl, h⟩
theorem i_up {k : Nat} {u : SX} {v : SY} (h : i_Rel k u v) : i_Rel (k + 4) u v := h
theorem i_vc0 : wpX_init (fun u => wpY_init (fun v => i_Rel 0 u v)) :=
  vr_mk (k := 0) (n := 0) (K := fun _ => 0) (zs := fun _ => 0) ⟨by omega, fun t ht => absurd ht (Nat.not_lt_zero t), fun t ht => absurd ht (Nat.not_lt_zero t), fun i _ => ⟨rfl, Nat.zero_le _, fun p hp => absurd hp (Nat.not_lt_zero p)⟩, True.intro, True.intro⟩
theorem vl_3 {b : Int32} (h : ¬ b < 0) (h2 : b ≤ 2) : ∃ i, i < 3 ∧ b = nI i := by
  obtain ⟨j, hj, e⟩ := nI_of2 (n := 2) (by decide) h h2
  exact ⟨j, by omega, e⟩
theorem vy_isInput {post : Int32 → Prop} {b : Int32} (h1 : ¬ b < 0 → b ≤ 2 → post 1) (h0 : (b < 0 ∨ ¬ b ≤ 2) → post 0) : wpY_isInput post (cn, hg, oc, tp, dp, sz, inq, kq, aq, ra, fl, ln, va, bg, mn, rs, el, os, ou) b := by
  unfold wpY_isInput
  exact br_c (fun z => h0 (Or.inl z)) (fun z => br_c (fun z2 => h0 (Or.inr (Int32.not_le.mpr z2))) (fun z2 => h1 z (Int32.not_lt.mp z2)))
theorem vy_in0 {post : Int32 → Prop} {b : Int32} (h : b < 0 ∨ ¬ b ≤ 2) (hp : post 0) : wpY_isInput post (cn, hg, oc, tp, dp, sz, inq, kq, aq, ra, fl, ln, va, bg, mn, rs, el, os, ou) b :=
  vy_isInput (fun w1 w2 => absurd h (fun w => w.elim w1 (fun w3 => w3 w2))) (fun _ => hp)
theorem vy_in1 {post : Int32 → Prop} {i : Nat} (h : i < 3) (hp : post 1) : wpY_isInput post (cn, hg, oc, tp, dp, sz, inq, kq, aq, ra, fl, ln, va, bg, mn, rs, el, os, ou) (nI i) :=
  vy_isInput (fun _ _ => hp) (fun w => w.elim (fun z => absurd z (nI_pos (by omega))) (fun z => absurd (nI_le (b := 2) (by omega) (by decide)) z))
theorem vl_zs {i z : Nat} {ic' iz' inq' : Nat → Int32} (h : ∀ i, i < 3 → iz i = nI (zs i) ∧ zs i ≤ 8 ∧ ∀ p, p < zs i → ic (8 * i + p) = inq (8 * i + p)) (hz : z ≤ 8) (hs : iz' i = nI z) (hn : ∀ j, j ≠ i → iz' j = iz j)
    (hc : ∀ p, p < z → ic' (8 * i + p) = inq' (8 * i + p)) (hf : ∀ j, (j < 8 * i ∨ 8 * i + 8 ≤ j) → ic' j = ic j) (hf2 : ∀ j, (j < 8 * i ∨ 8 * i + 8 ≤ j) → inq' j = inq j) :
    ∀ j, j < 3 → iz' j = nI ((fun j => if j = i then z else zs j) j) ∧ (fun j => if j = i then z else zs j) j ≤ 8 ∧ ∀ p, p < (fun j => if j = i then z else zs j) j → ic' (8 * j + p) = inq' (8 * j + p) := by
  intro j hj
  by_cases e : j = i
  · subst e
    show iz' j = nI (if j = j then z else zs j) ∧ (if j = j then z else zs j) ≤ 8 ∧ ∀ p, p < (if j = j then z else zs j) → _
    rw [if_pos rfl]
    exact ⟨hs, hz, hc⟩
  · show iz' j = nI (if j = i then z else zs j) ∧ (if j = i then z else zs j) ≤ 8 ∧ ∀ p, p < (if j = i then z else zs j) → _
    rw [if_neg e]
    obtain ⟨h1, h2, h3⟩ := h j hj
    refine ⟨(hn j e).trans h1, h2, fun p hp => ?_⟩
    rw [hf _ (by omega), hf2 _ (by omega)]
    exact h3 p hp
theorem i_vc_put {k : Nat} {u : SX} {v : SY} (I : i_Rel k u v) (hk : k + 4 ≤ 2048) (v1 : Int32) (v2 : Int32) : wpX_put (fun r u' => wpY_put (fun r' v' => r' = r ∧ i_Rel (k + 4) u' v') v v1 v2) u v1 v2 := by
  obtain ⟨n, K, zs, vc, nt, lc, ic, iz, ki, op, so, bb, vC, vS, lC, lS, lP, lK, lT, mC, mS, hg, oc, tp, dp, inq, ra, fl, ln, va, bg, mn, rs, el, os, ou, rfl, rfl, hI⟩ := I
  unfold wpX_put wpY_put
  refine vx_isInput ?_ ?_
  · intro w1 w2
    obtain ⟨i, hi, rfl⟩ := vl_3 w1 w2
    obtain ⟨a1, a2, a3, a4, a5, a6⟩ := hI
    obtain ⟨z1, z2, z3⟩ := a4 i hi
    refine br_f (by decide) ⟨vp_in_nI hi (by decide), ?_⟩
    simp (disch := omega) only [nI_clamp, z1, forall_eq, vl_m8, nI_add, nI_1]
    refine pk_lt (zs i) 8 ?_ ?_ rfl rfl (by omega) (by omega)
    · intro hz
      refine ⟨vp_in_nI (by omega) (by decide), vp_in_nI hi (by decide), ?_⟩
      refine vy_in1 hi (br_f (by decide) ⟨vp_in_nI hi (by decide), ?_⟩)
      refine br_f (fun w => by rw [show (8 : Int32) = nI 8 from rfl, nI_eq (by omega) (by omega)] at w; omega) ?_
      simp (disch := omega) only [nI_clamp, z1, vl_8m, nI_add, nI_1, vl_in, true_and, pk_us, forall_eq]
      refine vr_mk (zs := fun j => if j = i then zs i + 1 else zs j) ⟨a1, a2, a3, vl_zs a4 (by omega) pk_us (fun j hj => pk_un hj) ?_ (fun j hj => pk_un (by omega)) (fun j hj => pk_un (by omega)), a5, a6⟩
      intro p hp
      by_cases e : p = zs i
      · subst e; rw [pk_us, pk_us]
      · rw [pk_un (by omega), pk_un (by omega)]; exact z3 p (by omega)
    · intro hz
      refine vy_in1 hi (br_f (by decide) ⟨vp_in_nI hi (by decide), br_t (by rw [show zs i = 8 by omega]; rfl) ⟨by trivial, vr_mk ⟨a1, a2, a3, a4, a5, a6⟩⟩⟩)
  · intro w
    exact br_t rfl (vy_in0 w (br_t rfl ⟨rfl, vr_mk hI⟩))
theorem i_vc_set {k : Nat} {u : SX} {v : SY} (I : i_Rel k u v) (hk : k + 4 ≤ 2048) (v1 : Int32) (v2 : Int32) (v3 : Int32) : wpX_set (fun r u' => wpY_set (fun r' v' => r' = r ∧ i_Rel (k + 4) u' v') v v1 v2 v3) u v1 v2 v3 := by
  obtain ⟨n, K, zs, vc, nt, lc, ic, iz, ki, op, so, bb, vC, vS, lC, lS, lP, lK, lT, mC, mS, hg, oc, tp, dp, inq, ra, fl, ln, va, bg, mn, rs, el, os, ou, rfl, rfl, hI⟩ := I
  unfold wpX_set wpY_set
  refine vx_isInput ?_ ?_
  · intro w1 w2
    obtain ⟨i, hi, rfl⟩ := vl_3 w1 w2
    have hI0 := hI
    obtain ⟨a1, a2, a3, a4, a5, a6⟩ := hI
    obtain ⟨z1, z2, z3⟩ := a4 i hi
    refine br_f (by decide) (br_c ?_ ?_)
    · intro q
      exact vy_in1 hi (br_f (by decide) (br_t q ⟨rfl, vr_mk hI0⟩))
    · intro q
      obtain ⟨p, hp, rfl⟩ := nI_of q
      refine ⟨vp_in_nI hi (by decide), ?_⟩
      simp (disch := omega) only [nI_clamp, z1, forall_eq, vl_m8, nI_add]
      refine pk_lt p (zs i) ?_ ?_ rfl rfl hp (by omega)
      · intro hz
        rw [nI_clamp (by omega)]
        refine ⟨vp_in_nI (by omega) (by decide), ?_⟩
        refine vy_in1 hi (br_f (by decide) (br_f q ⟨vp_in_nI hi (by decide), ?_⟩))
        refine br_t (nI_lt hz (by omega)) ?_
        simp (disch := omega) only [nI_clamp, vl_8m, nI_add, vl_in, true_and, forall_eq]
        refine vr_mk (zs := zs) ⟨a1, a2, a3, ?_, a5, a6⟩
        intro j hj
        obtain ⟨y1, y2, y3⟩ := a4 j hj
        refine ⟨y1, y2, fun r hr => ?_⟩
        by_cases e : 8 * j + r = 8 * i + p
        · rw [e, pk_us, pk_us]
        · rw [pk_un e, pk_un e]; exact y3 r hr
      · intro hz
        refine vy_in1 hi (br_f (by decide) (br_f q ⟨vp_in_nI hi (by decide), ?_⟩))
        exact br_f (nI_nlt hz hp) ⟨by trivial, vr_mk hI0⟩
  · intro w
    exact br_t rfl (vy_in0 w (br_t rfl ⟨rfl, vr_mk hI⟩))
theorem i_vc_empty {k : Nat} {u : SX} {v : SY} (I : i_Rel k u v) (hk : k + 4 ≤ 2048) (v1 : Int32) : wpX_empty (fun r u' => wpY_empty (fun r' v' => r' = r ∧ i_Rel (k + 4) u' v') v v1) u v1 := by
  obtain ⟨n, K, zs, vc, nt, lc, ic, iz, ki, op, so, bb, vC, vS, lC, lS, lP, lK, lT, mC, mS, hg, oc, tp, dp, inq, ra, fl, ln, va, bg, mn, rs, el, os, ou, rfl, rfl, hI⟩ := I
  unfold wpX_empty wpY_empty
  refine vx_isInput ?_ ?_
  · intro w1 w2
    obtain ⟨i, hi, rfl⟩ := vl_3 w1 w2
    obtain ⟨a1, a2, a3, a4, a5, a6⟩ := hI
    refine br_f (by decide) ⟨vp_in_nI hi (by decide), nm_e ⟨vp_in_nI hi (by decide), ?_⟩⟩
    rw [nI_clamp (by omega)]
    refine nm_e ?_
    refine vy_in1 hi (br_f (by decide) ⟨vp_in_nI hi (by decide), nm_e ⟨vp_in_nI hi (by decide), ?_⟩⟩)
    refine nm_e ⟨rfl, ?_⟩
    exact vr_mk (zs := fun j => if j = i then 0 else zs j) ⟨a1, a2, a3, vl_zs a4 (by omega) pk_us (fun j hj => pk_un hj) (fun p hp => absurd hp (Nat.not_lt_zero p)) (fun j hj => rfl) (fun j hj => rfl), a5, a6⟩
  · intro w
    exact br_t rfl (vy_in0 w (br_t rfl ⟨rfl, vr_mk hI⟩))
theorem i_vc_size {k : Nat} {u : SX} {v : SY} (I : i_Rel k u v) (hk : k + 4 ≤ 2048) (v1 : Int32) : wpX_size (fun r => wpY_size (fun r' => r' = r ∧ i_Rel (k + 4) u v) v v1) u v1 := by
  obtain ⟨n, K, zs, vc, nt, lc, ic, iz, ki, op, so, bb, vC, vS, lC, lS, lP, lK, lT, mC, mS, hg, oc, tp, dp, inq, ra, fl, ln, va, bg, mn, rs, el, os, ou, rfl, rfl, hI⟩ := I
  unfold wpX_size wpY_size
  refine vx_isInput ?_ ?_
  · intro w1 w2
    obtain ⟨i, hi, rfl⟩ := vl_3 w1 w2
    exact br_f (by decide) ⟨vp_in_nI hi (by decide), vy_in1 hi (br_f (by decide) ⟨vp_in_nI hi (by decide), rfl, vr_mk hI⟩)⟩
  · intro w
    exact br_t rfl (vy_in0 w (br_t rfl ⟨rfl, vr_mk hI⟩))
theorem i_vc_input {k : Nat} {u : SX} {v : SY} (I : i_Rel k u v) (hk : k + 4 ≤ 2048) (v1 : Int32) (v2 : Int32) : wpX_input (fun r => wpY_input (fun r' => r' = r ∧ i_Rel (k + 4) u v) v v1 v2) u v1 v2 := by
  obtain ⟨n, K, zs, vc, nt, lc, ic, iz, ki, op, so, bb, vC, vS, lC, lS, lP, lK, lT, mC, mS, hg, oc, tp, dp, inq, ra, fl, ln, va, bg, mn, rs, el, os, ou, rfl, rfl, hI⟩ := I
  unfold wpX_input wpY_input
  refine vx_isInput ?_ ?_
  · intro w1 w2
    obtain ⟨i, hi, rfl⟩ := vl_3 w1 w2
    have hI0 := hI
    obtain ⟨a1, a2, a3, a4, a5, a6⟩ := hI
    obtain ⟨z1, z2, z3⟩ := a4 i hi
    refine br_f (by decide) (br_c ?_ ?_)
    · intro q
      exact vy_in1 hi (br_f (by decide) (br_t q ⟨rfl, vr_mk hI0⟩))
    · intro q
      obtain ⟨p, hp, rfl⟩ := nI_of q
      refine ⟨vp_in_nI hi (by decide), ?_⟩
      rw [nI_clamp (show i < 2 ^ 31 by omega), z1]
      refine pk_lt p (zs i) ?_ ?_ rfl rfl hp (by omega)
      · intro hz
        rw [vl_m8, nI_add, nI_clamp (by omega)]
        refine ⟨vp_in_nI (by omega) (by decide), ?_⟩
        refine vy_in1 hi (br_f (by decide) (br_f q ⟨vp_in_nI hi (by decide), ?_⟩))
        rw [z1]
        refine br_f (nI_ge hz (by omega)) ?_
        rw [vl_8m, nI_add, nI_clamp (by omega)]
        exact ⟨vp_in_nI (by omega) (by decide), (z3 p hz).symm, vr_mk hI0⟩
      · intro hz
        refine vy_in1 hi (br_f (by decide) (br_f q ⟨vp_in_nI hi (by decide), ?_⟩))
        rw [z1]
        exact br_t (nI_le hz hp) ⟨rfl, vr_mk hI0⟩
  · intro w
    exact br_t rfl (vy_in0 w (br_t rfl ⟨rfl, vr_mk hI⟩))
end
section
/-! part 23: the questions -/
variable {n : Nat} {K zs : Nat → Nat} {tc sc ob vc nt lc : Int32} {ic iz ki op so bb vC vS lC lS lP lK lT mC mS : Nat → Int32} {cn hg oc tp dp : Int32} {sz inq kq aq ra fl ln va bg mn rs el os ou : Nat → Int32}
def vl_wh (K : Nat → Nat) (n : Nat) : Prop := (vl_st K n).2 = [] ∧ (vl_st K n).1.length = 1
theorem vx_whole {post : Int32 → Prop} (h : vl_PG K op n) (h1 : vl_wh K n → post 1) (h0 : ¬ vl_wh K n → post 0) : wpX_isWhole post (tc, nI (vl_st K n).1.length, nI (vl_st K n).2.length, vc, nt, lc, ic, iz, ki, op, so, bb, vC, vS, lC, lS, lP, lK, lT, mC, mS) := by
  obtain ⟨b1, b2⟩ := vl_bd h n (Nat.le_refl _)
  unfold wpX_isWhole
  refine pk_eq (vl_st K n).2.length 0 ?_ ?_ rfl rfl (by omega) (by omega)
  · intro e
    refine pk_eq (vl_st K n).1.length 1 ?_ ?_ rfl rfl (by omega) (by omega)
    · intro e2; exact h1 ⟨List.length_eq_zero_iff.mp e, e2⟩
    · intro e2; exact h0 (fun q => e2 q.2)
  · intro e; exact h0 (fun q => e (by rw [q.1]; rfl))
theorem vy_whole {post : Int32 → SY → Prop} (h : vl_PG K aq n) (hn40 : n ≤ 40) (hK : ∀ t, t < n → kq t = nI (K t))
    (h1 : vl_wh K n → ∀ hg oc ra fl, vl_xT vl_yb ra (vl_st K n).1 → post 1 (nI n, hg, oc, tp, dp, sz, inq, kq, aq, ra, fl, ln, va, bg, mn, rs, el, os, ou)) (h0 : ¬ vl_wh K n → ∀ hg oc ra fl, post 0 (nI n, hg, oc, tp, dp, sz, inq, kq, aq, ra, fl, ln, va, bg, mn, rs, el, os, ou)) : wpY_isWhole post (nI n, hg, oc, tp, dp, sz, inq, kq, aq, ra, fl, ln, va, bg, mn, rs, el, os, ou) := by
  obtain ⟨b1, b2⟩ := vl_bd h n (Nat.le_refl _)
  unfold wpY_isWhole
  refine vy_check h hn40 hK ?_
  intro a b q1 q2
  refine pk_eq (vl_st K n).2.length 0 ?_ ?_ rfl rfl (by omega) (by omega)
  · intro e
    refine pk_eq (vl_st K n).1.length 1 ?_ ?_ rfl rfl (by omega) (by omega)
    · intro e2; exact h1 ⟨List.length_eq_zero_iff.mp e, e2⟩ _ _ _ _ q1
    · intro e2; exact h0 (fun q => e2 q.2) _ _ _ _
  · intro e; exact h0 (fun q => e (by rw [q.1]; rfl)) _ _ _ _
/-- a whole program has one result, on both sides -/
theorem vr_res (hI : vl_Inv n K zs ic iz ki op so bb inq) (hw : vl_wh K n) : ∃ r : vl_rw, r.1 ≤ 8 ∧
    (∀ (post : SX → Prop) (sc ob vc nt lc : Int32) (so bb vC vS lC lS lP lK lT mC mS : Nat → Int32), (∀ vc nt lc vC vS lC lS lP lK lT mC mS, vS 0 = nI r.1 → (∀ p, p < r.1 → vC p = r.2 p) → post (nI n, sc, ob, vc, nt, lc, ic, iz, ki, op, so, bb, vC, vS, lC, lS, lP, lK, lT, mC, mS)) → wpX_workOut post (nI n, sc, ob, vc, nt, lc, ic, iz, ki, op, so, bb, vC, vS, lC, lS, lP, lK, lT, mC, mS)) ∧
    (∀ (post : SY → Prop) (hg oc tp dp : Int32) (ra fl ln va bg mn rs el os ou : Nat → Int32), (∀ tp dp ln va bg mn rs el os ou, ln 0 = nI r.1 → (∀ p, p < r.1 → va p = r.2 p) → post (nI n, hg, oc, tp, dp, iz, inq, ki, op, ra, fl, ln, va, bg, mn, rs, el, os, ou)) → wpY_work post (nI n, hg, oc, tp, dp, iz, inq, ki, op, ra, fl, ln, va, bg, mn, rs, el, os, ou)) := by
  obtain ⟨a1, a2, a3, a4, a5, a6⟩ := hI
  have hz : ∀ i, i < 3 → zs i ≤ 8 := fun i hi => (a4 i hi).2.1
  obtain ⟨r, h8, hr, -, -⟩ := vl_run_end (zs := zs) (inp := fun i p => ic (8 * i + p)) a2 a1 hw.1 hw.2 hz
  refine ⟨r, h8, ?_, ?_⟩
  · intro post sc ob vc nt lc so bb vC vS lC lS lP lK lT mC mS hp
    exact vx_workOut a2 a1 hw.1 a3 (fun i hi => ⟨(a4 i hi).1, (a4 i hi).2.1, fun p _ => rfl⟩) hr hp
  · intro post hg oc tp dp ra fl ln va bg mn rs el os ou hp
    exact vy_work a2 a1 hw.1 a3 (fun i hi => ⟨(a4 i hi).1, (a4 i hi).2.1, fun p hpp => ((a4 i hi).2.2 p hpp).symm⟩) hr hp
theorem i_vc_sort {k : Nat} {u : SX} {v : SY} (I : i_Rel k u v) (hk : k + 4 ≤ 2048) : wpX_sort (fun r => wpY_sort (fun r' v' => r' = r ∧ i_Rel (k + 4) u v') v) u := by
  obtain ⟨n, K, zs, vc, nt, lc, ic, iz, ki, op, so, bb, vC, vS, lC, lS, lP, lK, lT, mC, mS, hg, oc, tp, dp, inq, ra, fl, ln, va, bg, mn, rs, el, os, ou, rfl, rfl, hI⟩ := I
  have hI0 := hI
  obtain ⟨a1, a2, a3, a4, a5, a6⟩ := hI
  unfold wpX_sort wpY_sort
  refine vx_whole a2 ?_ ?_
  · intro hw
    refine br_f (by decide) ?_
    refine vy_whole a2 a1 a3 ?_ ?_
    · intro _ hg' oc' ra' fl' q1
      refine br_f (by decide) ?_
      have h12 := vl_st_12 (K := K) n
      have hw2 := hw.2
      rcases hst : (vl_st K n).1 with _ | ⟨x, S⟩
      · rw [hst] at hw2; cases hw2
      · rw [hst] at hw2 a5 q1 h12
        have hS : S = [] := List.length_eq_zero_iff.mp (by rw [List.length_cons] at hw2; omega)
        subst hS
        have e1 : so 0 = nI x := a5.1
        have e2 : ra' 0 = vl_yb x := q1.1
        rw [e2, e1]
        rcases h12 x (List.mem_cons_self ..) with rfl | rfl
        · exact br_t rfl ⟨rfl, by rw [← hst]; exact vr_mk hI0⟩
        · exact br_f (by decide) ⟨rfl, by rw [← hst]; exact vr_mk hI0⟩
    · intro hw2; exact absurd hw hw2
  · intro hw
    refine br_t rfl ?_
    refine vy_whole a2 a1 a3 ?_ ?_
    · intro hw2; exact absurd hw2 hw
    · intro _ hg' oc' ra' fl'
      exact br_t rfl ⟨rfl, vr_mk hI0⟩
theorem i_vc_length {k : Nat} {u : SX} {v : SY} (I : i_Rel k u v) (hk : k + 4 ≤ 2048) : wpX_length (fun r u' => wpY_length (fun r' v' => r' = r ∧ i_Rel (k + 4) u' v') v) u := by
  obtain ⟨n, K, zs, vc, nt, lc, ic, iz, ki, op, so, bb, vC, vS, lC, lS, lP, lK, lT, mC, mS, hg, oc, tp, dp, inq, ra, fl, ln, va, bg, mn, rs, el, os, ou, rfl, rfl, hI⟩ := I
  have hI0 := hI
  obtain ⟨a1, a2, a3, a4, a5, a6⟩ := hI
  unfold wpX_length wpY_length
  refine vx_whole a2 ?_ ?_
  · intro hw
    obtain ⟨r, h8, hX, hY⟩ := vr_res hI0 hw
    refine br_f (by decide) ?_
    refine hX _ _ _ _ _ _ _ _ _ _ _ _ _ _ _ _ _ ?_
    intro vc' nt' lc' vC' vS' lC' lS' lP' lK' lT' mC' mS' e1 e2
    dsimp only
    refine vy_whole a2 a1 a3 ?_ ?_
    · intro _ hg' oc' ra' fl' q1
      refine br_f (by decide) ?_
      refine hY _ _ _ _ _ _ _ _ _ _ _ _ _ _ _ ?_
      intro tp' dp' ln' va' bg' mn' rs' el' os' ou' e3 e4
      exact ⟨e3.trans e1.symm, vr_mk hI0⟩
    · intro hw2; exact absurd hw hw2
  · intro hw
    refine br_t rfl ?_
    refine vy_whole a2 a1 a3 ?_ ?_
    · intro hw2; exact absurd hw2 hw
    · intro _ hg' oc' ra' fl'
      exact br_t rfl ⟨rfl, vr_mk hI0⟩
theorem i_vc_result {k : Nat} {u : SX} {v : SY} (I : i_Rel k u v) (hk : k + 4 ≤ 2048) (v1 : Int32) : wpX_result (fun r u' => wpY_result (fun r' v' => r' = r ∧ i_Rel (k + 4) u' v') v v1) u v1 := by
  obtain ⟨n, K, zs, vc, nt, lc, ic, iz, ki, op, so, bb, vC, vS, lC, lS, lP, lK, lT, mC, mS, hg, oc, tp, dp, inq, ra, fl, ln, va, bg, mn, rs, el, os, ou, rfl, rfl, hI⟩ := I
  have hI0 := hI
  obtain ⟨a1, a2, a3, a4, a5, a6⟩ := hI
  unfold wpX_result wpY_result
  refine vx_whole a2 ?_ ?_
  · intro hw
    obtain ⟨r, h8, hX, hY⟩ := vr_res hI0 hw
    refine br_f (by decide) ?_
    refine hX _ _ _ _ _ _ _ _ _ _ _ _ _ _ _ _ _ ?_
    intro vc' nt' lc' vC' vS' lC' lS' lP' lK' lT' mC' mS' e1 e2
    dsimp only
    rw [e1]
    refine br_c ?_ ?_
    · intro z
      refine vy_whole a2 a1 a3 ?_ ?_
      · intro _ hg' oc' ra' fl' q1
        refine br_f (by decide) ?_
        refine hY _ _ _ _ _ _ _ _ _ _ _ _ _ _ _ ?_
        intro tp' dp' ln' va' bg' mn' rs' el' os' ou' e3 e4
        exact br_t z ⟨rfl, vr_mk hI0⟩
      · intro hw2; exact absurd hw hw2
    · intro z
      obtain ⟨p, hp, rfl⟩ := nI_of z
      refine pk_lt p r.1 ?_ ?_ rfl rfl hp (by omega)
      · intro hpr
        rw [nI_clamp hp, e2 p hpr]
        refine ⟨vp_in_nI (by omega) (by decide), ?_⟩
        refine vy_whole a2 a1 a3 ?_ ?_
        · intro _ hg' oc' ra' fl' q1
          refine br_f (by decide) ?_
          refine hY _ _ _ _ _ _ _ _ _ _ _ _ _ _ _ ?_
          intro tp' dp' ln' va' bg' mn' rs' el' os' ou' e3 e4
          refine br_f z ?_
          dsimp only
          rw [e3]
          refine br_f (nI_ge hpr (by omega)) ⟨vp_in_nI (by omega) (by decide), ?_, vr_mk hI0⟩
          exact e4 p hpr
        · intro hw2; exact absurd hw hw2
      · intro hpr
        refine vy_whole a2 a1 a3 ?_ ?_
        · intro _ hg' oc' ra' fl' q1
          refine br_f (by decide) ?_
          refine hY _ _ _ _ _ _ _ _ _ _ _ _ _ _ _ ?_
          intro tp' dp' ln' va' bg' mn' rs' el' os' ou' e3 e4
          refine br_f z ?_
          dsimp only
          rw [e3]
          exact br_t (nI_le hpr hp) ⟨rfl, vr_mk hI0⟩
        · intro hw2; exact absurd hw hw2
  · intro hw
    refine br_t rfl ?_
    refine vy_whole a2 a1 a3 ?_ ?_
    · intro hw2; exact absurd hw2 hw
    · intro _ hg' oc' ra' fl'
      exact br_t rfl ⟨rfl, vr_mk hI0⟩
def vl_mi (f : Nat → Int32) : Nat → Int32
  | 0 => 0
  | p + 1 => vl_mi f p + f p * nI (p + 1)
theorem i_vc_mixture {k : Nat} {u : SX} {v : SY} (I : i_Rel k u v) (hk : k + 4 ≤ 2048) : wpX_mixture (fun r u' => wpY_mixture (fun r' v' => r' = r ∧ i_Rel (k + 4) u' v') v) u := by
  obtain ⟨n, K, zs, vc, nt, lc, ic, iz, ki, op, so, bb, vC, vS, lC, lS, lP, lK, lT, mC, mS, hg, oc, tp, dp, inq, ra, fl, ln, va, bg, mn, rs, el, os, ou, rfl, rfl, hI⟩ := I
  have hI0 := hI
  obtain ⟨a1, a2, a3, a4, a5, a6⟩ := hI
  unfold wpX_mixture wpY_mixture
  refine vx_whole a2 ?_ ?_
  · intro hw
    obtain ⟨r, h8, hX, hY⟩ := vr_res hI0 hw
    refine br_f (by decide) ?_
    refine hX _ _ _ _ _ _ _ _ _ _ _ _ _ _ _ _ _ ?_
    intro vc' nt' lc' vC' vS' lC' lS' lP' lK' lT' mC' mS' e1 e2
    refine nm_r e1 ⟨r.1 - 0 + 1, vl_acc (W := fun q p x => wX_mixture_24 _ (nI r.1) (nI n) _ _ _ _ _ _ _ _ _ _ _ _ _ _ _ _ _ _ _ _ q x (nI p)) (F := vl_mi r.2) (c := r.1) 0 (by omega) ?_ ?_⟩
    · intro q
      refine br_t (nI_le (Nat.le_refl _) (by omega)) ?_
      refine vy_whole a2 a1 a3 ?_ ?_
      · intro _ hg' oc' ra' fl' q1
        refine br_f (by decide) ?_
        refine hY _ _ _ _ _ _ _ _ _ _ _ _ _ _ _ ?_
        intro tp' dp' ln' va' bg' mn' rs' el' os' ou' e3 e4
        refine ⟨r.1 - 0 + 1, vl_acc (W := fun q p x => wY_mixture_17 _ (nI n) _ _ _ _ _ _ _ _ _ _ _ _ _ _ _ _ _ _ q x (nI p)) (F := vl_mi r.2) (c := r.1) 0 (by omega) ?_ ?_⟩
        · intro q
          exact br_t (by rw [e3]; exact nI_le (Nat.le_refl _) (by omega)) ⟨rfl, vr_mk hI0⟩
        · intro q p _ hpc h3
          refine br_f (by rw [e3]; exact nI_ge hpc (by omega)) ⟨vp_in_nI (by omega) (by decide), ?_⟩
          rw [nI_clamp (by omega), e4 p hpc, nI_1]
          exact nm_e (nm_e h3)
      · intro hw2; exact absurd hw hw2
    · intro q p _ hpc h3
      refine br_f (nI_ge hpc (by omega)) ⟨vp_in_nI (by omega) (by decide), ?_⟩
      rw [nI_clamp (by omega), e2 p hpc, nI_1]
      exact nm_e (nm_e h3)
  · intro hw
    refine br_t rfl ?_
    refine vy_whole a2 a1 a3 ?_ ?_
    · intro hw2; exact absurd hw2 hw
    · intro _ hg' oc' ra' fl'
      exact br_t rfl ⟨rfl, vr_mk hI0⟩
end
section
/-! part 24: store, and the tokens -/
variable {n : Nat} {K zs : Nat → Nat} {tc sc ob vc nt lc : Int32} {ic iz ki op so bb vC vS lC lS lP lK lT mC mS : Nat → Int32} {cn hg oc tp dp : Int32} {sz inq kq aq ra fl ln va bg mn rs el os ou : Nat → Int32}
theorem i_vc_store {k : Nat} {u : SX} {v : SY} (I : i_Rel k u v) (hk : k + 4 ≤ 2048) (v1 : Int32) : wpX_store (fun r u' => wpY_store (fun r' v' => r' = r ∧ i_Rel (k + 4) u' v') v v1) u v1 := by
  obtain ⟨n, K, zs, vc, nt, lc, ic, iz, ki, op, so, bb, vC, vS, lC, lS, lP, lK, lT, mC, mS, hg, oc, tp, dp, inq, ra, fl, ln, va, bg, mn, rs, el, os, ou, rfl, rfl, hI⟩ := I
  have hI0 := hI
  obtain ⟨a1, a2, a3, a4, a5, a6⟩ := hI
  unfold wpX_store wpY_store
  refine vx_isInput ?_ ?_
  · intro w1 w2
    obtain ⟨i, hi, rfl⟩ := vl_3 w1 w2
    refine br_f (by decide) ?_
    refine vx_whole a2 ?_ ?_
    · intro hw
      obtain ⟨r, h8, hX, hY⟩ := vr_res hI0 hw
      refine br_f (by decide) ?_
      refine hX _ _ _ _ _ _ _ _ _ _ _ _ _ _ _ _ _ ?_
      intro vc' nt' lc' vC' vS' lC' lS' lP' lK' lT' mC' mS' e1 e2
      refine nm_r e1 ⟨r.1 + 1, vl_copy (W := fun q p b => wX_store_33 _ (nI i) (nI r.1) _ _ _ _ _ _ q (nI p) b _ _ _ _ _ _ _ _ _ _ _ _ _ _) (src := r.2) (a := ic) (o := 8 * i) (c := r.1) ?_ ?_⟩
      · intro q b h1 h2
        refine br_t (nI_le (Nat.le_refl _) (by omega)) ⟨vp_in_nI hi (by decide), ?_⟩
        rw [nI_clamp (by omega)]
        refine nm_e ?_
        refine vy_in1 hi (br_f (by decide) ?_)
        refine vy_whole a2 a1 a3 ?_ ?_
        · intro _ hg' oc' ra' fl' q1
          refine br_f (by decide) ?_
          refine hY _ _ _ _ _ _ _ _ _ _ _ _ _ _ _ ?_
          intro tp' dp' ln' va' bg' mn' rs' el' os' ou' e3 e4
          refine ⟨vp_in_nI hi (by decide), ?_⟩
          rw [e3]
          refine nm_e ⟨8 + 1, vl_copy (W := fun q p b' => wY_store_38 _ (nI i) _ _ _ _ _ q (nI p) _ b' _ _ _ _ _ _ _ _ _ _ _ _) (src := va') (a := inq) (o := 8 * i) (c := 8) ?_ ?_⟩
          · intro q b' g1 g2
            refine br_t (by decide) ⟨vp_in_nI hi (by decide), ?_⟩
            rw [nI_clamp (by omega), pk_us]
            refine ⟨rfl, vr_mk (zs := fun j => if j = i then r.1 else zs j) ⟨a1, a2, a3, vl_zs a4 h8 pk_us (fun j hj => pk_un hj) ?_ (fun j hj => h2 j (by omega)) (fun j hj => g2 j hj), a5, a6⟩⟩
            intro p hp
            rw [h1 p hp, g1 p (by omega), e4 p hp]
          · intro q p b' hpc g1 g2 h3
            refine br_f (nI_ge (b := 8) hpc (by decide)) ?_
            simp (disch := omega) only [vl_8m, nI_add, nI_clamp, vl_in, forall_eq, true_and, nI_1]
            exact h3
        · intro hw2; exact absurd hw hw2
      · intro q p b hpc h1 h2 h3
        refine br_f (nI_ge hpc (by omega)) ⟨vp_in_nI (by omega) (by decide), ?_⟩
        rw [vl_m8, nI_add, nI_clamp (by omega), nI_clamp (by omega), e2 p hpc]
        exact ⟨vp_in_nI (by omega) (by decide), nm_e (nm_r (nI_1 _) h3)⟩
    · intro hw
      refine br_t rfl ?_
      refine vy_in1 hi (br_f (by decide) ?_)
      refine vy_whole a2 a1 a3 ?_ ?_
      · intro hw2; exact absurd hw2 hw
      · intro _ hg' oc' ra' fl'
        exact br_t rfl ⟨rfl, vr_mk hI0⟩
  · intro w
    exact br_t rfl (vy_in0 w (br_t rfl ⟨rfl, vr_mk hI0⟩))
theorem i_vc_drop {k : Nat} {u : SX} {v : SY} (I : i_Rel k u v) (hk : k + 4 ≤ 2048) : wpX_drop (fun r u' => wpY_drop (fun r' v' => r' = r ∧ i_Rel (k + 4) u' v') v) u := by
  obtain ⟨n, K, zs, vc, nt, lc, ic, iz, ki, op, so, bb, vC, vS, lC, lS, lP, lK, lT, mC, mS, hg, oc, tp, dp, inq, ra, fl, ln, va, bg, mn, rs, el, os, ou, rfl, rfl, hI⟩ := I
  have hI0 := hI
  obtain ⟨a1, a2, a3, a4, a5, a6⟩ := hI
  unfold wpX_drop wpY_drop
  cases n with
  | zero => exact br_t rfl (br_t rfl ⟨rfl, vr_mk hI0⟩)
  | succ n =>
    refine br_f (nI_ne0 (by omega) (by omega)) (nm_r (nI_pred n) ?_)
    have a2' : vl_PG K op n := fun t ht => a2 t (by omega)
    refine vx_rebuild a2' (by omega) (fun t ht => a3 t (by omega)) ?_
    intro a b q1 q2
    refine br_f (nI_ne0 (by omega) (by omega)) (nm_r (nI_pred n) ⟨rfl, ?_⟩)
    exact vr_mk ⟨by omega, a2', fun t ht => a3 t (by omega), a4, q1, q2⟩
theorem i_vc_clear {k : Nat} {u : SX} {v : SY} (I : i_Rel k u v) (hk : k + 4 ≤ 2048) : wpX_clear (fun r u' => wpY_clear (fun r' v' => r' = r ∧ i_Rel (k + 4) u' v') v) u := by
  obtain ⟨n, K, zs, vc, nt, lc, ic, iz, ki, op, so, bb, vC, vS, lC, lS, lP, lK, lT, mC, mS, hg, oc, tp, dp, inq, ra, fl, ln, va, bg, mn, rs, el, os, ou, rfl, rfl, hI⟩ := I
  obtain ⟨a1, a2, a3, a4, a5, a6⟩ := hI
  unfold wpX_clear wpY_clear
  have a2' : vl_PG K op 0 := fun t ht => absurd ht (Nat.not_lt_zero t)
  refine vx_rebuild (n := 0) a2' (by omega) (fun t ht => absurd ht (Nat.not_lt_zero t)) ?_
  intro a b q1 q2
  exact ⟨rfl, vr_mk (n := 0) ⟨by omega, a2', fun t ht => absurd ht (Nat.not_lt_zero t), a4, q1, q2⟩⟩
/-- an element's lane is there -/
def vl_eo (k : Nat) (b : Int32) (F : List Nat) : Prop := k = 2 → ∃ i, i < F.length ∧ b = nI i
theorem vx_tok43 {post : Int32 → SX → Prop} {k : Nat} {b : Int32} {S F : List Nat} (hk : k < 22) (hn : n < 40) (h6 : S.length ≤ 6) (hF2 : F.length ≤ 2) (hS : vl_xT nI so S) (hB : vl_xT nI bb F) (h12 : ∀ x, x ∈ S → x = 1 ∨ x = 2) (hb : vl_base F ≤ S.length)
    (h4 : ¬ vl_fd k (S, F) → post (-4) (nI n, nI S.length, nI F.length, vc, nt, lc, ic, iz, ki, op, so, bb, vC, vS, lC, lS, lP, lK, lT, mC, mS))
    (h5 : vl_fd k (S, F) → ¬ vl_rm k (S, F) → post (-5) (nI n, nI S.length, nI F.length, vc, nt, lc, ic, iz, ki, op, so, bb, vC, vS, lC, lS, lP, lK, lT, mC, mS))
    (h1 : vl_fd k (S, F) → vl_rm k (S, F) → ∀ a c, vl_xT nI a (vl_ss k (S, F)).1 → vl_xT nI c (vl_ss k (S, F)).2 → post (nI (n + 1)) (nI (n + 1), nI (vl_ss k (S, F)).1.length, nI (vl_ss k (S, F)).2.length, vc, nt, lc, ic, iz, upd ki n (nI k), upd op n b, a, c, vC, vS, lC, lS, lP, lK, lT, mC, mS)) :
    wX_token_43 post (nI k) b (nI n) (nI S.length) (nI F.length) vc nt lc ic iz ki op so bb vC vS lC lS lP lK lT mC mS := by
  unfold wX_token_43
  refine vx_finds hk h6 hF2 hS hB h12 hb ?_ ?_
  · intro f1
    refine br_f (by decide) ?_
    refine vx_room hk h6 hF2 ?_ ?_
    · intro r1
      refine br_f (by decide) ?_
      simp (disch := omega) only [nI_clamp, vl_in, forall_eq, true_and, nI_1]
      refine vx_change hk f1 r1 h6 hF2 hS hB ?_
      exact h1 f1 r1
    · intro r1; exact br_t rfl (h5 f1 r1)
  · intro f1; exact br_t rfl (h4 f1)
theorem vy_tok0 {post : Int32 → SY → Prop} {a b : Int32} (h1 : vl_good a b → wY_token_42 post a b cn hg oc tp dp sz inq kq aq ra fl ln va bg mn rs el os ou) (h0 : ¬ vl_good a b → post (-1) (cn, hg, oc, tp, dp, sz, inq, kq, aq, ra, fl, ln, va, bg, mn, rs, el, os, ou)) : wpY_token post (cn, hg, oc, tp, dp, sz, inq, kq, aq, ra, fl, ln, va, bg, mn, rs, el, os, ou) a b := by
  unfold wpY_token
  refine br_c (fun z => h0 (fun q => q.1 z)) (fun z => br_c (fun z2 => h0 (fun q => Int32.not_lt.mpr q.2.1 z2)) (fun z2 => ?_))
  have z2' : a ≤ 21 := Int32.not_lt.mp z2
  have go26 : (a = 0 → ¬ b < -99 ∧ ¬ 99 < b) → wY_token_26 post a b cn hg oc tp dp sz inq kq aq ra fl ln va bg mn rs el os ou := by
    intro g0
    unfold wY_token_26
    refine br_c (fun e1 => br_c (fun w => h0 (fun q => (q.2.2.2 e1).1 w)) (fun w => br_c (fun w2 => h1 ⟨z, z2', g0, fun _ => ⟨w, w2⟩⟩) (fun w2 => h0 (fun q => w2 (q.2.2.2 e1).2)))) (fun e1 => h1 ⟨z, z2', g0, fun e => absurd e e1⟩)
  refine br_c (fun e0 => br_c (fun w => h0 (fun q => (q.2.2.1 e0).1 w)) (fun w => br_c (fun w2 => h0 (fun q => (q.2.2.1 e0).2 w2)) (fun w2 => go26 (fun _ => ⟨w, w2⟩)))) (fun e0 => go26 (fun e => absurd e e0))
theorem vy_tok42 {post : Int32 → SY → Prop} {k : Nat} {b : Int32} (hk : k < 22) (h : vl_PG K aq n) (hn : n < 40) (hK : ∀ t, t < n → kq t = nI (K t))
    (h3 : ¬ vl_eo k b (vl_st K n).2 → ∀ hg oc ra fl, post (-3) (nI n, hg, oc, tp, dp, sz, inq, kq, aq, ra, fl, ln, va, bg, mn, rs, el, os, ou))
    (h4 : vl_eo k b (vl_st K n).2 → ¬ vl_fd k (vl_st K n) → ∀ hg oc ra fl, post (-4) (nI n, hg, oc, tp, dp, sz, inq, kq, aq, ra, fl, ln, va, bg, mn, rs, el, os, ou))
    (h5 : vl_eo k b (vl_st K n).2 → vl_fd k (vl_st K n) → ¬ vl_rm k (vl_st K n) → ∀ hg oc ra fl, post (-5) (nI n, hg, oc, tp, dp, sz, inq, kq, aq, ra, fl, ln, va, bg, mn, rs, el, os, ou))
    (h1 : vl_eo k b (vl_st K n).2 → vl_fd k (vl_st K n) → vl_rm k (vl_st K n) → ∀ hg oc ra fl, post (nI (n + 1)) (nI (n + 1), hg, oc, tp, dp, sz, inq, upd kq n (nI k), upd aq n b, ra, fl, ln, va, bg, mn, rs, el, os, ou)) : wY_token_42 post (nI k) b (nI n) hg oc tp dp sz inq kq aq ra fl ln va bg mn rs el os ou := by
  obtain ⟨b1, b2⟩ := vl_bd h n (Nat.le_refl _)
  have hbase := vl_Fs_base (vl_base_le h n (Nat.le_refl _))
  have h12 := vl_st_12 (K := K) n
  unfold wY_token_42
  refine br_f (fun w => by rw [show (40 : Int32) = nI 40 from rfl, nI_eq (by omega) (by omega)] at w; omega) ?_
  refine vy_check h (by omega) hK ?_
  intro ra' fl' q1 q2
  have go : vl_eo k b (vl_st K n).2 → wY_token_78 post (nI k) b (nI n) (nI (vl_st K n).1.length) (nI (vl_st K n).2.length) tp dp sz inq kq aq (ra') (fl') ln va bg mn rs el os ou := by
    intro he
    unfold wY_token_78
    refine vy_isFound hk b1 b2 q1 q2 h12 hbase ?_ ?_
    · intro f1
      have f1 : vl_fd k (vl_st K n) := f1
      have fin : vl_rm k (vl_st K n) → wY_token_136 post (nI k) b (nI n) (nI (vl_st K n).1.length) (nI (vl_st K n).2.length) tp dp sz inq kq aq (ra') (fl') ln va bg mn rs el os ou := by
        intro r1
        unfold wY_token_136
        simp (disch := omega) only [nI_clamp, vl_in, forall_eq, true_and, nI_1]
        exact h1 he f1 r1 _ _ _ _
      have goB : (k = 19 ∨ k = 20) → wY_token_101 post (nI k) b (nI n) (nI (vl_st K n).1.length) (nI (vl_st K n).2.length) tp dp sz inq kq aq (ra') (fl') ln va bg mn rs el os ou := by
        intro kb
        refine br_t (nI_le (a := 3) (by omega) (by omega)) (br_f (by decide) ?_)
        refine pk_eq (vl_st K n).2.length 2 ?_ ?_ rfl rfl (by omega) (by omega)
        · intro e
          exact h5 he f1 (fun r => by have := r.2 kb; omega) _ _ _ _
        · intro e
          exact fin ⟨fun w => by omega, fun _ => by omega⟩
      refine br_f (by decide) ?_
      refine pk_eq k 19 (fun e => goB (Or.inl e)) (fun e => pk_eq k 20 (fun e2 => goB (Or.inr e2)) (fun e2 => ?_))
      refine pk_le 3 k ?_ ?_ rfl rfl (by omega) (by omega)
      · intro h3k
        exact br_t rfl (fin ⟨fun w => by omega, fun w => by omega⟩)
      · intro h3k
        refine pk_eq (vl_st K n).1.length 6 ?_ ?_ rfl rfl (by omega) (by omega)
        · intro e6
          exact h5 he f1 (fun r => by have := r.1 h3k; omega) _ _ _ _
        · intro e6
          exact br_t rfl (fin ⟨fun _ => by omega, fun w => by omega⟩)
    · intro f1; exact br_t rfl (h4 he f1 _ _ _ _)
  refine pk_eq k 2 ?_ ?_
  · intro e
    refine br_c ?_ ?_
    · intro w
      refine h3 (fun q => ?_) _ _ _ _
      obtain ⟨i, hi, rfl⟩ := q e
      exact nI_pos (by omega) w
    · intro w
      obtain ⟨i, hi, rfl⟩ := nI_of w
      refine pk_lt i (vl_st K n).2.length ?_ ?_ rfl rfl hi (by omega)
      · intro w2; exact go (fun _ => ⟨i, w2, rfl⟩)
      · intro w2
        refine h3 (fun q => ?_) _ _ _ _
        obtain ⟨j, hj, ej⟩ := q e
        rw [nI_eq hi (by omega)] at ej
        omega
  · intro e; exact go (fun w => absurd w e)
theorem i_vc_token {k : Nat} {u : SX} {v : SY} (I : i_Rel k u v) (hk : k + 4 ≤ 2048) (v1 : Int32) (v2 : Int32) : wpX_token (fun r u' => wpY_token (fun r' v' => r' = r ∧ i_Rel (k + 4) u' v') v v1 v2) u v1 v2 := by
  obtain ⟨n, K, zs, vc, nt, lc, ic, iz, ki, op, so, bb, vC, vS, lC, lS, lP, lK, lT, mC, mS, hg, oc, tp, dp, inq, ra, fl, ln, va, bg, mn, rs, el, os, ou, rfl, rfl, hI⟩ := I
  have hI0 := hI
  obtain ⟨a1, a2, a3, a4, a5, a6⟩ := hI
  obtain ⟨b1, b2⟩ := vl_bd a2 n (Nat.le_refl _)
  have hbase := vl_Fs_base (vl_base_le a2 n (Nat.le_refl _))
  have h12 := vl_st_12 (K := K) n
  unfold wpX_token
  refine vx_isTok ?_ ?_
  · intro good
    refine br_f (by decide) ?_
    have hY42 : ∀ Q : Int32 → SY → Prop, wY_token_42 Q v1 v2 (nI n) hg oc tp dp (iz) inq (ki) (op) ra fl ln va bg mn rs el os ou → wpY_token Q (nI n, hg, oc, tp, dp, iz, inq, ki, op, ra, fl, ln, va, bg, mn, rs, el, os, ou) v1 v2 := fun Q hQ => vy_tok0 (fun _ => hQ) (fun w => absurd good w)
    obtain ⟨j, hj, rfl⟩ := nI_of2 (n := 21) (by decide) good.1 good.2.1
    have hj : j < 22 := by omega
    refine pk_lt n 40 ?_ ?_ rfl rfl (by omega) (by omega)
    · intro hn
      have bad3 : ¬ vl_eo j v2 (vl_st K n).2 → wpY_token (fun r' v' => r' = -3 ∧ i_Rel (k + 4) (nI n, nI (vl_st K n).1.length, nI (vl_st K n).2.length, vc, nt, lc, ic, iz, ki, op, so, bb, vC, vS, lC, lS, lP, lK, lT, mC, mS) v') (nI n, hg, oc, tp, dp, iz, inq, ki, op, ra, fl, ln, va, bg, mn, rs, el, os, ou) (nI j) v2 := by
        intro he
        refine hY42 _ (vy_tok42 hj a2 hn a3 ?_ ?_ ?_ ?_)
        · intro _ _ _ _ _; exact ⟨rfl, vr_mk hI0⟩
        · intro w; exact absurd w he
        · intro w; exact absurd w he
        · intro w; exact absurd w he
      have go : vl_eo j v2 (vl_st K n).2 → wX_token_43 (fun r u' => wpY_token (fun r' v' => r' = r ∧ i_Rel (k + 4) u' v') (nI n, hg, oc, tp, dp, iz, inq, ki, op, ra, fl, ln, va, bg, mn, rs, el, os, ou) (nI j) v2) (nI j) v2 (nI n) (nI (vl_st K n).1.length) (nI (vl_st K n).2.length) vc nt lc ic iz ki op so bb vC vS lC lS lP lK lT mC mS := by
        intro he
        refine vx_tok43 (S := (vl_st K n).1) (F := (vl_st K n).2) hj hn b1 b2 a5 a6 h12 hbase ?_ ?_ ?_
        · intro f1
          refine hY42 _ (vy_tok42 hj a2 hn a3 ?_ ?_ ?_ ?_)
          · intro w; exact absurd he w
          · intro _ _ _ _ _ _; exact ⟨rfl, vr_mk hI0⟩
          · intro _ w; exact absurd w f1
          · intro _ w; exact absurd w f1
        · intro f1 r1
          refine hY42 _ (vy_tok42 hj a2 hn a3 ?_ ?_ ?_ ?_)
          · intro w; exact absurd he w
          · intro _ w; exact absurd f1 w
          · intro _ _ _ _ _ _ _; exact ⟨rfl, vr_mk hI0⟩
          · intro _ _ w; exact absurd w r1
        · intro f1 r1 a c q1 q2
          refine hY42 _ (vy_tok42 hj a2 hn a3 ?_ ?_ ?_ ?_)
          · intro w; exact absurd he w
          · intro _ w; exact absurd f1 w
          · intro _ _ w; exact absurd r1 w
          · intro _ _ _ hg' oc' ra' fl'
            refine ⟨rfl, ?_⟩
            have hok : vl_ok j v2 (vl_st K n) := ⟨hj, f1, r1, fun e => by
              obtain ⟨w1, w2⟩ := good.2.2.2 (by rw [e]; rfl)
              exact vl_3 w1 w2, he⟩
            have e := vl_st_new (K := K) (n := n) (k := j)
            have e' : vl_ss j ((vl_st K n).1, (vl_st K n).2) = vl_st (fun t => if t = n then j else K t) (n + 1) := e.symm
            rw [e'] at q1 q2 ⊢
            refine vr_mk ⟨by omega, vl_PG_s a2 hok, ?_, a4, q1, q2⟩
            intro t ht
            by_cases et : t = n
            · subst et
              rw [pk_us]
              show nI j = nI (if t = t then j else K t)
              rw [if_pos rfl]
            · rw [pk_un et]
              show ki t = nI (if t = n then j else K t)
              rw [if_neg et]
              exact a3 t (by omega)
      refine pk_eq j 2 ?_ ?_
      · intro e
        refine br_c ?_ ?_
        · intro w
          refine bad3 (fun q => ?_)
          obtain ⟨i, hi, rfl⟩ := q e
          exact nI_pos (by omega) w
        · intro w
          obtain ⟨i, hi, rfl⟩ := nI_of w
          refine pk_lt i (vl_st K n).2.length ?_ ?_ rfl rfl hi (by omega)
          · intro w2; exact go (fun _ => ⟨i, w2, rfl⟩)
          · intro w2
            refine bad3 (fun q => ?_)
            obtain ⟨i', hi', ei⟩ := q e
            rw [nI_eq hi (by omega)] at ei
            omega
      · intro e; exact go (fun w => absurd w e)
    · intro hn
      refine hY42 _ ?_
      exact br_t (by rw [show n = 40 by omega]; rfl) ⟨rfl, vr_mk hI0⟩
  · intro bad
    refine br_t rfl ?_
    exact vy_tok0 (fun w => absurd w bad) (fun _ => ⟨rfl, vr_mk hI0⟩)
end
