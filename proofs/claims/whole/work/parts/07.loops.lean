/-! part 7: loops over any walk: copying, turning, adding up -/
theorem vl_copy {W : Nat → Nat → (Nat → Int32) → Prop} {src a : Nat → Int32} {o c : Nat}
    (hstop : ∀ k b, (∀ p, p < c → b (o + p) = src p) → (∀ j, j < o ∨ o + c ≤ j → b j = a j) → W (k + 1) c b)
    (hstep : ∀ k i b, i < c → (∀ p, p < i → b (o + p) = src p) → (∀ j, j < o ∨ o + i ≤ j → b j = a j) → W k (i + 1) (upd b (o + i) (src i)) → W (k + 1) i b) : W (c + 1) 0 a := by
  have H : ∀ d i b, i + d = c → (∀ p, p < i → b (o + p) = src p) → (∀ j, j < o ∨ o + i ≤ j → b j = a j) → W (d + 1) i b := by
    intro d
    induction d with
    | zero =>
      intro i b hi h1 h2
      have : i = c := by omega
      subst this
      exact hstop 0 b h1 h2
    | succ d ih =>
      intro i b hi h1 h2
      refine hstep (d + 1) i b (by omega) h1 h2 (ih (i + 1) _ (by omega) ?_ ?_)
      · intro p hp
        by_cases e : p = i
        · subst e; exact pk_us
        · rw [pk_un (by omega)]; exact h1 p (by omega)
      · intro j hj
        rw [pk_un (by omega)]
        exact h2 j (by omega)
  exact H c 0 a (by omega) (fun p hp => by omega) (fun j _ => rfl)
theorem vl_turn {W : Nat → Nat → (Nat → Int32) → Prop} {a : Nat → Int32} {o m : Nat}
    (hstop : ∀ k b, (∀ p, p < m → b (o + p) = a (o + (m - 1 - p))) → (∀ j, j < o ∨ o + m ≤ j → b j = a j) → W (k + 1) (m / 2) b)
    (hstep : ∀ k i b, i < m / 2 → W k (i + 1) (upd (upd b (o + i) (b (o + (m - 1 - i)))) (o + (m - 1 - i)) (b (o + i))) → W (k + 1) i b) : W (m / 2 + 1) 0 a := by
  have H : ∀ d i b, i + d = m / 2 → (∀ p, p < m → (p < i ∨ m - 1 - i < p) → b (o + p) = a (o + (m - 1 - p))) → (∀ p, i ≤ p → p ≤ m - 1 - i → b (o + p) = a (o + p)) → (∀ j, j < o ∨ o + m ≤ j → b j = a j) → W (d + 1) i b := by
    intro d
    induction d with
    | zero =>
      intro i b hi h1 h2 h3
      have : i = m / 2 := by omega
      subst this
      refine hstop 0 b ?_ h3
      intro p hp
      by_cases e : p < m / 2 ∨ m - 1 - m / 2 < p
      · exact h1 p hp e
      · rw [h2 p (by omega) (by omega), show m - 1 - p = p by omega]
    | succ d ih =>
      intro i b hi h1 h2 h3
      refine hstep (d + 1) i b (by omega) (ih (i + 1) _ (by omega) ?_ ?_ ?_)
      · intro p hp hpi
        by_cases e1 : p = m - 1 - i
        · subst e1
          rw [pk_us, h2 i (by omega) (by omega), show m - 1 - (m - 1 - i) = i by omega]
        · rw [pk_un (by omega)]
          by_cases e2 : p = i
          · subst e2
            rw [pk_us, h2 _ (by omega) (by omega)]
          · rw [pk_un (by omega)]
            exact h1 p hp (by omega)
      · intro p hp1 hp2
        rw [pk_un (by omega), pk_un (by omega)]
        exact h2 p (by omega) (by omega)
      · intro j hj
        rw [pk_un (by omega), pk_un (by omega)]
        exact h3 j hj
  exact H (m / 2) 0 a (by omega) (fun p hp h => by omega) (fun p _ _ => rfl) (fun j _ => rfl)
theorem vl_acc {W : Nat → Nat → Int32 → Prop} {F : Nat → Int32} {c : Nat} (i0 : Nat) (h0 : i0 ≤ c) (hstop : ∀ k, W (k + 1) c (F c))
    (hstep : ∀ k i, i0 ≤ i → i < c → W k (i + 1) (F (i + 1)) → W (k + 1) i (F i)) : W (c - i0 + 1) i0 (F i0) := by
  have H : ∀ d i, i0 ≤ i → i + d = c → W (d + 1) i (F i) := by
    intro d
    induction d with
    | zero =>
      intro i _ hi
      have : i = c := by omega
      subst this
      exact hstop 0
    | succ d ih =>
      intro i hi0 hi
      exact hstep (d + 1) i hi0 (by omega) (ih (i + 1) (by omega) (by omega))
  exact H (c - i0) i0 (by omega) (by omega)
/-- running sums in place, upwards -/
theorem vl_scan {W : Nat → Nat → (Nat → Int32) → Prop} {a : Nat → Int32} {o m : Nat}
    (hstop : ∀ k i b, m ≤ i → i ≤ m + 1 → (∀ p, p < m → b (o + p) = vl_sm (fun p => a (o + p)) (p + 1)) → (∀ j, j < o ∨ o + m ≤ j → b j = a j) → W (k + 1) i b)
    (hstep : ∀ k i b, 1 ≤ i → i < m → W k (i + 1) (upd b (o + i) (b (o + i) + b (o + (i - 1)))) → W (k + 1) i b) : W (m + 1) 1 a := by
  have H : ∀ d i b, 1 ≤ i → i ≤ m + 1 → m < i + d + 1 → (∀ p, p < m → p < i → b (o + p) = vl_sm (fun p => a (o + p)) (p + 1)) → (∀ p, i ≤ p → b (o + p) = a (o + p)) → (∀ j, j < o ∨ o + m ≤ j → b j = a j) → W (d + 1) i b := by
    intro d
    induction d with
    | zero =>
      intro i b h0 h0' hi h1 h2 h3
      exact hstop 0 i b (by omega) h0' (fun p hp => h1 p hp (by omega)) h3
    | succ d ih =>
      intro i b h0 h0' hi h1 h2 h3
      by_cases hm : i < m
      · refine hstep (d + 1) i b h0 hm (ih (i + 1) _ (by omega) (by omega) (by omega) ?_ ?_ ?_)
        · intro p hp hpi
          by_cases e : p = i
          · subst e
            rw [pk_us, h2 p (by omega), h1 (p - 1) (by omega) (by omega), show p - 1 + 1 = p by omega, Int32.add_comm]
            rfl
          · rw [pk_un (by omega)]; exact h1 p hp (by omega)
        · intro p hp
          rw [pk_un (by omega)]
          exact h2 p (by omega)
        · intro j hj
          rw [pk_un (by omega)]
          exact h3 j hj
      · exact hstop (d + 1) i b (by omega) h0' (fun p hp => h1 p hp (by omega)) h3
  refine H m 1 a (by omega) (by omega) (by omega) ?_ (fun p _ => rfl) (fun j _ => rfl)
  intro p hp hp1
  have : p = 0 := by omega
  subst this
  show a (o + 0) = 0 + a (o + 0)
  rw [Int32.zero_add]
theorem vl_sm_congr {f g : Nat → Int32} : ∀ {m : Nat}, (∀ p, p < m → f p = g p) → vl_sm f m = vl_sm g m := by
  intro m
  induction m with
  | zero => intro _; rfl
  | succ m ih =>
    intro h
    show vl_sm f m + f m = vl_sm g m + g m
    rw [ih (fun p hp => h p (by omega)), h m (by omega)]
theorem vl_mx_congr {f g : Nat → Int32} : ∀ {m : Nat}, (∀ p, p < m → f p = g p) → vl_mx f m = vl_mx g m := by
  intro m
  induction m with
  | zero => intro _; rfl
  | succ m ih =>
    intro h
    cases m with
    | zero => exact h 0 (by omega)
    | succ m =>
      show (if vl_mx f (m + 1) < f (m + 1) then f (m + 1) else vl_mx f (m + 1)) = (if vl_mx g (m + 1) < g (m + 1) then g (m + 1) else vl_mx g (m + 1))
      rw [ih (fun p hp => h p (by omega)), h (m + 1) (by omega)]
/-- the view of a row in the array, exchanged -/
theorem vl_swv {a : Nat → Int32} {o i : Nat} : (fun p => upd (upd a (o + i) (a (o + (i + 1)))) (o + (i + 1)) (a (o + i)) (o + p)) = vl_sw (fun p => a (o + p)) i := by
  funext p
  unfold vl_sw
  by_cases e1 : p = i
  · subst e1
    rw [if_pos rfl, pk_un (by omega), pk_us]
  · rw [if_neg e1]
    by_cases e2 : p = i + 1
    · subst e2
      rw [if_pos rfl, pk_us]
    · rw [if_neg e2, pk_un (by omega), pk_un (by omega)]
