/-! part 9: what a token finds, place by place from the top -/
theorem vl_xT_get {h a : Nat → Int32} : ∀ {S : List Nat} {i : Nat}, vl_xT h a S → i < S.length → a (S.length - 1 - i) = h (S.getD i 0) := by
  intro S
  induction S with
  | nil => intro i _ hi; exact absurd hi (by show ¬ i < 0; omega)
  | cons x S ih =>
    intro i ⟨h1, h2⟩ hi
    rw [List.length_cons] at hi ⊢
    cases i with
    | zero =>
      rw [show S.length + 1 - 1 - 0 = S.length by omega]
      exact h1
    | succ i =>
      rw [show S.length + 1 - 1 - (i + 1) = S.length - 1 - i by omega]
      exact ih h2 (by omega)
def vl_sd (S F : List Nat) (i w : Nat) : Prop := vl_base F + i + 1 ≤ S.length ∧ S.getD i 0 = w
theorem vl_p1 {S F : List Nat} {x : Nat} : (∃ R, S = [x] ++ R ∧ vl_base F ≤ R.length) ↔ vl_sd S F 0 x := by
  constructor
  · rintro ⟨R, rfl, h⟩
    exact ⟨by show _ ≤ R.length + 1; omega, rfl⟩
  · rintro ⟨h, e⟩
    match S, h, e with
    | [], h, _ => exact absurd h (by show ¬ _ ≤ 0; omega)
    | y :: R, h, e =>
      have e : y = x := e
      subst e
      have h : vl_base F + 0 + 1 ≤ R.length + 1 := h
      exact ⟨R, rfl, by omega⟩
theorem vl_p2 {S F : List Nat} {x y : Nat} : (∃ R, S = [x, y] ++ R ∧ vl_base F ≤ R.length) ↔ (vl_sd S F 0 x ∧ vl_sd S F 1 y) := by
  constructor
  · rintro ⟨R, rfl, h⟩
    exact ⟨⟨by show _ ≤ R.length + 1 + 1; omega, rfl⟩, ⟨by show _ ≤ R.length + 1 + 1; omega, rfl⟩⟩
  · rintro ⟨⟨-, e⟩, ⟨h, e2⟩⟩
    match S, h, e, e2 with
    | [], h, _, _ => exact absurd h (by show ¬ _ ≤ 0; omega)
    | [_], h, _, _ => exact absurd h (by show ¬ _ ≤ 1; omega)
    | a :: b :: R, h, e, e2 =>
      have e : a = x := e
      have e2 : b = y := e2
      subst e e2
      have h : vl_base F + 1 + 1 ≤ R.length + 1 + 1 := h
      exact ⟨R, rfl, by omega⟩
theorem vl_p3 {S F : List Nat} {x y z : Nat} : (∃ R, S = [x, y, z] ++ R ∧ vl_base F ≤ R.length) ↔ (vl_sd S F 0 x ∧ vl_sd S F 1 y ∧ vl_sd S F 2 z) := by
  constructor
  · rintro ⟨R, rfl, h⟩
    exact ⟨⟨by show _ ≤ R.length + 1 + 1 + 1; omega, rfl⟩, ⟨by show _ ≤ R.length + 1 + 1 + 1; omega, rfl⟩, ⟨by show _ ≤ R.length + 1 + 1 + 1; omega, rfl⟩⟩
  · rintro ⟨⟨-, e⟩, ⟨-, e2⟩, ⟨h, e3⟩⟩
    match S, h, e, e2, e3 with
    | [], h, _, _, _ => exact absurd h (by show ¬ _ ≤ 0; omega)
    | [_], h, _, _, _ => exact absurd h (by show ¬ _ ≤ 1; omega)
    | [_, _], h, _, _, _ => exact absurd h (by show ¬ _ ≤ 2; omega)
    | a :: b :: c :: R, h, e, e2, e3 =>
      have e : a = x := e
      have e2 : b = y := e2
      have e3 : c = z := e3
      subst e e2 e3
      have h : vl_base F + 2 + 1 ≤ R.length + 1 + 1 + 1 := h
      exact ⟨R, rfl, by omega⟩
theorem vl_fd_n {k : Nat} {S F : List Nat} (hk : k ≠ 21) : vl_fd k (S, F) ↔ ∃ R, S = vl_nd k ++ R ∧ vl_base F ≤ R.length :=
  ⟨fun ⟨R, h1, h2, _⟩ => ⟨R, h1, h2⟩, fun ⟨R, h1, h2⟩ => ⟨R, h1, h2, fun z => absurd z hk⟩⟩
theorem vl_fd_0 {k : Nat} {S F : List Nat} (hk : k < 3) (hb : vl_base F ≤ S.length) : vl_fd k (S, F) := by
  rw [vl_fd_n (by omega)]
  exact ⟨S, by unfold vl_nd; rw [if_pos hk]; rfl, hb⟩
theorem vl_fd_nn {k : Nat} {S F : List Nat} (h1 : 3 ≤ k) (h2 : k < 9) : vl_fd k (S, F) ↔ (vl_sd S F 0 1 ∧ vl_sd S F 1 1) := by
  rw [vl_fd_n (by omega), ← vl_p2, show vl_nd k = [1, 1] by unfold vl_nd; rw [if_neg (by omega), if_pos h2]]
theorem vl_fd_9 {S F : List Nat} : vl_fd 9 (S, F) ↔ (vl_sd S F 0 1 ∧ vl_sd S F 1 1 ∧ vl_sd S F 2 1) := by
  rw [vl_fd_n (by omega), ← vl_p3]; exact Iff.rfl
theorem vl_fd_13 {S F : List Nat} : vl_fd 13 (S, F) ↔ (vl_sd S F 0 1 ∧ vl_sd S F 1 2) := by
  rw [vl_fd_n (by omega), ← vl_p2]; exact Iff.rfl
theorem vl_fd_14 {S F : List Nat} : vl_fd 14 (S, F) ↔ vl_sd S F 0 1 := by
  rw [vl_fd_n (by omega), ← vl_p1]; exact Iff.rfl
theorem vl_fd_15 {S F : List Nat} : vl_fd 15 (S, F) ↔ (vl_sd S F 0 2 ∧ vl_sd S F 1 2) := by
  rw [vl_fd_n (by omega), ← vl_p2]; exact Iff.rfl
theorem vl_fd_r {k : Nat} {S F : List Nat} (h : k = 10 ∨ k = 11 ∨ k = 12 ∨ k = 16 ∨ k = 17 ∨ k = 18 ∨ k = 19 ∨ k = 20) : vl_fd k (S, F) ↔ vl_sd S F 0 2 := by
  rw [vl_fd_n (by omega), ← vl_p1, show vl_nd k = [2] by rcases h with rfl | rfl | rfl | rfl | rfl | rfl | rfl | rfl <;> rfl]
theorem vl_fd_21 {S F : List Nat} : vl_fd 21 (S, F) ↔ (F ≠ [] ∧ S.length = vl_base F + 1 ∧ vl_sd S F 0 1) := by
  constructor
  · rintro ⟨R, h1, h2, h3⟩
    have h1 : S = 1 :: R := h1
    subst h1
    obtain ⟨g1, g2⟩ := h3 rfl
    exact ⟨g1, by show R.length + 1 = _; rw [g2], ⟨by show _ ≤ R.length + 1; exact Nat.succ_le_succ h2, rfl⟩⟩
  · rintro ⟨g1, g2, g3⟩
    obtain ⟨R, h1, h2⟩ := vl_p1.mpr g3
    have h1 : S = 1 :: R := h1
    subst h1
    have g2 : R.length + 1 = vl_base F + 1 := g2
    exact ⟨R, rfl, h2, fun _ => ⟨g1, by show R.length = vl_base F; omega⟩⟩
def vl_Fs : List Nat → Nat → Prop
  | [], _ => True
  | x :: F, h => x ≤ h ∧ vl_Fs F x
theorem vl_Fs_mono {F : List Nat} {h h' : Nat} (g : vl_Fs F h) (hb : vl_base F ≤ h') : vl_Fs F h' := by
  cases F with
  | nil => exact True.intro
  | cons x F => exact ⟨hb, g.2⟩
theorem vl_Fs_base {F : List Nat} {h : Nat} (g : vl_Fs F h) : vl_base F ≤ h := by
  cases F with
  | nil => exact Nat.zero_le _
  | cons x F => exact g.1
theorem vl_Fs_ss {k : Nat} {s : List Nat × List Nat} (h2 : vl_fd k s) (g : vl_Fs s.2 s.1.length) : vl_Fs (vl_ss k s).2 (vl_ss k s).1.length := by
  obtain ⟨S, F⟩ := s
  have g : vl_Fs F S.length := g
  obtain ⟨R, e, hb, g1, g2, g3⟩ := vl_ss_ok h2
  by_cases hk : k = 19 ∨ k = 20
  · rw [g1 hk]
    exact ⟨Nat.le_refl _, vl_Fs_mono g hb⟩
  · rw [g2 hk]
    by_cases h21 : k = 21
    · obtain ⟨q1, q2⟩ := g3 h21
      rw [if_pos h21]
      cases F with
      | nil => exact absurd rfl q1
      | cons x F =>
        have q2 : R.length = x := q2
        have g : x ≤ S.length ∧ vl_Fs F x := g
        show vl_Fs F (R.length + 1)
        have := vl_Fs_base g.2
        exact vl_Fs_mono g.2 (by omega)
    · rw [if_neg h21]
      show vl_Fs F (R.length + 1)
      exact vl_Fs_mono g (by omega)
theorem vl_base_le {K : Nat → Nat} {A : Nat → Int32} {n : Nat} (h : vl_PG K A n) : ∀ t, t ≤ n → vl_Fs (vl_st K t).2 (vl_st K t).1.length := by
  intro t
  induction t with
  | zero => intro _; exact True.intro
  | succ t ih =>
    intro ht
    obtain ⟨h1, h2, h3, -⟩ := h t (by omega)
    exact vl_Fs_ss h2 (ih (by omega))
/-- one token more -/
theorem vl_PG_s {K : Nat → Nat} {A : Nat → Int32} {n k : Nat} {a : Int32} (h : vl_PG K A n) (ho : vl_ok k a (vl_st K n)) : vl_PG (fun t => if t = n then k else K t) (upd A n a) (n + 1) := by
  intro t ht
  have e : vl_st (fun t => if t = n then k else K t) t = vl_st K t := vl_st_congr (fun j hj => if_neg (by omega))
  rw [e]
  by_cases e2 : t = n
  · subst e2
    rw [pk_us]
    show vl_ok (if t = t then k else K t) a _
    rw [if_pos rfl]
    exact ho
  · rw [pk_un e2]
    show vl_ok (if t = n then k else K t) (A t) _
    rw [if_neg e2]
    exact h t (by omega)
theorem vl_st_new {K : Nat → Nat} {n k : Nat} : vl_st (fun t => if t = n then k else K t) (n + 1) = vl_ss k (vl_st K n) := by
  show vl_ss (if n = n then k else K n) (vl_st (fun t => if t = n then k else K t) n) = _
  rw [if_pos rfl, vl_st_congr (K' := K) (fun j hj => if_neg (by omega))]
