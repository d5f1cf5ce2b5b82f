/-! part 8: the two sorting loops over any walk -/
def vl_fr (o m : Nat) (a b : Nat → Int32) : Prop := ∀ j, j < o ∨ o + m ≤ j → b j = a j
def vl_xc (o i : Nat) (b : Nat → Int32) : Nat → Int32 := upd (upd b (o + i) (b (o + (i + 1)))) (o + (i + 1)) (b (o + i))
theorem vl_xc_v {o i : Nat} {b : Nat → Int32} : (fun p => vl_xc o i b (o + p)) = vl_sw (fun p => b (o + p)) i := vl_swv
theorem vl_xc_fr {o i m : Nat} {a b : Nat → Int32} (h : vl_fr o m a b) (hi : i + 1 < m) : vl_fr o m a (vl_xc o i b) := by
  intro j hj
  unfold vl_xc
  rw [pk_un (by omega), pk_un (by omega)]
  exact h j hj
def vl_cts (o m : Nat) (a b : Nat → Int32) : Prop := ∀ v, vl_ct (fun p => b (o + p)) v m = vl_ct (fun p => a (o + p)) v m
theorem vl_xc_ct {o i m : Nat} {a b : Nat → Int32} (h : vl_cts o m a b) (hi : i + 1 < m) : vl_cts o m a (vl_xc o i b) := by
  intro v
  show vl_ct (fun p => vl_xc o i b (o + p)) v m = _
  rw [vl_xc_v, vl_ct_sw hi]
  exact h v
theorem vl_ins {Wo : Nat → Nat → (Nat → Int32) → Prop} {Wi : Nat → Nat → Nat → Nat → (Nat → Int32) → Prop} {a : Nat → Int32} {o m : Nat}
    (hstop : ∀ k c b, m ≤ c → c ≤ m + 1 → vl_Sd m (fun p => a (o + p)) (fun p => b (o + p)) → vl_fr o m a b → Wo (k + 1) c b)
    (hout : ∀ k c b, 1 ≤ c → c < m → (∃ q, Wi k c q c b) → Wo (k + 1) c b)
    (hexit : ∀ k c q d b, 1 ≤ c → c < m → d ≤ c → (d = 0 ∨ (1 ≤ d ∧ b (o + (d - 1)) ≤ b (o + d))) → Wo k (c + 1) b → Wi k c (q + 1) d b)
    (hstep : ∀ k c q d b, 1 ≤ c → c < m → d + 1 ≤ c → ¬ b (o + d) ≤ b (o + (d + 1)) → Wi k c q d (vl_xc o d b) → Wi k c (q + 1) (d + 1) b) : Wo (m + 1) 1 a := by
  have inner : ∀ k c, 1 ≤ c → c < m → (∀ b, vl_As (c + 1) (fun p => b (o + p)) → vl_cts o m a b → vl_fr o m a b → Wo k (c + 1) b) →
      ∀ d b, d ≤ c → vl_IA c d (fun p => b (o + p)) → vl_cts o m a b → vl_fr o m a b → Wi k c (d + 1) d b := by
    intro k c hc1 hc hW d
    induction d with
    | zero =>
      intro b hd h1 h2 h3
      exact hexit k c 0 0 b hc1 hc hd (Or.inl rfl) (hW b (vl_IAx h1 (Or.inl rfl)) h2 h3)
    | succ d ih =>
      intro b hd h1 h2 h3
      by_cases e : b (o + d) ≤ b (o + (d + 1))
      · exact hexit k c (d + 1) (d + 1) b hc1 hc hd (Or.inr ⟨by omega, e⟩) (hW b (vl_IAx h1 (Or.inr e)) h2 h3)
      · refine hstep k c (d + 1) d b hc1 hc hd e (ih _ (by omega) ?_ (vl_xc_ct h2 (by omega)) (vl_xc_fr h3 (by omega)))
        rw [vl_xc_v]
        exact vl_IAs h1 hd (Int32.le_of_lt (Int32.not_le.mp e))
  have H : ∀ dd c b, 1 ≤ c → c ≤ m + 1 → m < c + dd + 1 → (∀ p q, p < q → q < c → q < m → b (o + p) ≤ b (o + q)) → vl_cts o m a b → vl_fr o m a b → Wo (dd + 1) c b := by
    intro dd
    induction dd with
    | zero =>
      intro c b h0 h0' hi h1 h2 h3
      exact hstop 0 c b (by omega) h0' ⟨fun p q hpq hq => h1 p q hpq (by omega) hq, h2⟩ h3
    | succ dd ih =>
      intro c b h0 h0' hi h1 h2 h3
      by_cases hm : c < m
      · refine hout (dd + 1) c b h0 hm ⟨c + 1, inner (dd + 1) c h0 hm ?_ c b (Nat.le_refl _) (vl_IA0 (fun p q hpq hq => h1 p q hpq hq (by omega))) h2 h3⟩
        intro b' g1 g2 g3
        exact ih (c + 1) b' (by omega) (by omega) (by omega) (fun p q hpq hq _ => g1 p q hpq hq) g2 g3
      · exact hstop (dd + 1) c b (by omega) h0' ⟨fun p q hpq hq => h1 p q hpq (by omega) hq, h2⟩ h3
  exact H m 1 a (by omega) (by omega) (by omega) (fun p q hpq hq _ => by omega) (fun _ => rfl) (fun _ _ => rfl)
theorem vl_bub {Wo : Nat → Nat → (Nat → Int32) → Prop} {Wi : Nat → Nat → Nat → Nat → (Nat → Int32) → Prop} {a : Nat → Int32} {o m : Nat}
    (hstop : ∀ k b, vl_Sd m (fun p => a (o + p)) (fun p => b (o + p)) → vl_fr o m a b → Wo (k + 1) m b)
    (hout : ∀ k c b, c < m → (∃ q, Wi k c q 0 b) → Wo (k + 1) c b)
    (hexit : ∀ k c q l b, c < m → l < m → m ≤ l + 1 → Wo k (c + 1) b → Wi k c (q + 1) l b)
    (hswap : ∀ k c q l b, c < m → l + 1 < m → ¬ b (o + l) ≤ b (o + (l + 1)) → Wi k c q (l + 1) (vl_xc o l b) → Wi k c (q + 1) l b)
    (hkeep : ∀ k c q l b, c < m → l + 1 < m → b (o + l) ≤ b (o + (l + 1)) → Wi k c q (l + 1) b → Wi k c (q + 1) l b) : Wo (m + 1) 0 a := by
  have inner : ∀ k c, c < m → (∀ b, vl_BT m (m - c - 1) (fun p => b (o + p)) → vl_cts o m a b → vl_fr o m a b → Wo k (c + 1) b) →
      ∀ d l b, l + d + 1 = m → vl_Bi m (m - c) l (fun p => b (o + p)) → vl_cts o m a b → vl_fr o m a b → Wi k c (d + 1) l b := by
    intro k c hc hW d
    induction d with
    | zero =>
      intro l b hl h1 h2 h3
      exact hexit k c 0 l b hc (by omega) (by omega) (hW b (vl_Bix h1 (by omega) (by omega)) h2 h3)
    | succ d ih =>
      intro l b hl h1 h2 h3
      by_cases e : b (o + l) ≤ b (o + (l + 1))
      · exact hkeep k c (d + 1) l b hc (by omega) e (ih (l + 1) b (by omega) (vl_Bin h1 e) h2 h3)
      · refine hswap k c (d + 1) l b hc (by omega) e (ih (l + 1) _ (by omega) ?_ (vl_xc_ct h2 (by omega)) (vl_xc_fr h3 (by omega)))
        rw [vl_xc_v]
        exact vl_Bis h1 (by omega) e
  have H : ∀ dd c b, c + dd = m → vl_BT m (m - c) (fun p => b (o + p)) → vl_cts o m a b → vl_fr o m a b → Wo (dd + 1) c b := by
    intro dd
    induction dd with
    | zero =>
      intro c b hc h1 h2 h3
      have : c = m := by omega
      subst this
      rw [Nat.sub_self] at h1
      exact hstop 0 b ⟨vl_BTx h1, h2⟩ h3
    | succ dd ih =>
      intro c b hc h1 h2 h3
      refine hout (dd + 1) c b (by omega) ⟨m - 1 + 1, inner (dd + 1) c (by omega) ?_ (m - 1) 0 b (by omega) (vl_Bi0 h1) h2 h3⟩
      intro b' g1 g2 g3
      exact ih (c + 1) b' (by omega) (by rw [show m - (c + 1) = m - c - 1 by omega]; exact g1) g2 g3
  refine H m 0 a (by omega) ?_ (fun _ => rfl) (fun _ _ => rfl)
  intro p q hpq hq hMq
  omega
