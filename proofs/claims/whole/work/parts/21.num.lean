/-! loops and numbers -/
theorem wl_in {S E : Type} {step : S → Option (S ⊕ E)} {n : Nat} {s s' : S} (h : step s = some (.inl s')) : wloop step (n + 1) s = wloop step n s' := by simp only [wloop, h]
theorem wl_out {S E : Type} {step : S → Option (S ⊕ E)} {n : Nat} {s : S} {e : E} (h : step s = some (.inr e)) : wloop step (n + 1) s = some e := by simp only [wloop, h]
theorem wl_from {S E : Type} {step : S → Option (S ⊕ E)} (st : Nat → S) (n : Nat) (e : E) (h1 : ∀ i, i < n → step (st i) = some (.inl (st (i + 1)))) (h2 : step (st n) = some (.inr e)) : ∀ k m, n - k < m → k ≤ n → wloop step m (st k) = some e := by
  intro k m
  induction m generalizing k with
  | zero => intro h; omega
  | succ m ih =>
    intro h hk
    by_cases e0 : k = n
    · subst e0
      exact wl_out h2
    · rw [wl_in (h1 k (by omega))]
      exact ih (k + 1) (by omega) (by omega)
theorem fu_lt {n : Nat} (h : n < 1000000000000000000) : n < FU := by unfold FU; omega
theorem wl_count {S E : Type} {step : S → Option (S ⊕ E)} (st : Nat → S) (n : Nat) (e : E) (h1 : ∀ i, i < n → step (st i) = some (.inl (st (i + 1)))) (h2 : step (st n) = some (.inr e)) (hn : n < 1000000000000000000) {s0 : S} (h0 : s0 = st 0) : wloop step FU s0 = some e := by
  rw [h0]
  exact wl_from st n e h1 h2 0 FU (fu_lt (by omega)) (by omega)
theorem wl_meas {S E : Type} {step : S → Option (S ⊕ E)} (I : S → Prop) (μ : S → Nat) (Q : E → Prop) (h : ∀ s, I s → (∃ s', step s = some (.inl s') ∧ I s' ∧ μ s' < μ s) ∨ ∃ e, step s = some (.inr e) ∧ Q e) : ∀ n s, I s → μ s < n → ∃ e, wloop step n s = some e ∧ Q e := by
  intro n
  induction n with
  | zero => intro s _ h; omega
  | succ n ih =>
    intro s hs hm
    rcases h s hs with ⟨s', h1, h2, h3⟩ | ⟨e, h1, h2⟩
    · rw [wl_in h1]
      exact ih s' h2 (by omega)
    · exact ⟨e, wl_out h1, h2⟩
/-- the sum of f below n -/
def sN (f : Nat → Nat) : Nat → Nat
  | 0 => 0
  | n + 1 => sN f n + f n
theorem sN_le {f : Nat → Nat} {c : Nat} : ∀ n, (∀ k, k < n → f k ≤ c) → sN f n ≤ n * c
  | 0, _ => by simp [sN]
  | n + 1, h => by
    have h1 := sN_le n (fun k hk => h k (by omega))
    have h2 := h n (by omega)
    simp only [sN]
    rw [Nat.succ_mul]
    omega
theorem sN_congr {f g : Nat → Nat} : ∀ n, (∀ k, k < n → f k = g k) → sN f n = sN g n
  | 0, _ => rfl
  | n + 1, h => by simp only [sN]; rw [sN_congr n (fun k hk => h k (by omega)), h n (by omega)]
/-- how many below n have p -/
def cN (p : Nat → Bool) (n : Nat) : Nat := sN (fun k => if p k then 1 else 0) n
theorem cN_le (p : Nat → Bool) (n : Nat) : cN p n ≤ n := by
  have := sN_le (f := fun k => if p k then 1 else 0) (c := 1) n (fun k _ => by by_cases h : p k <;> simp [h])
  unfold cN
  omega
theorem cN_succ (p : Nat → Bool) (n : Nat) : cN p (n + 1) = cN p n + (if p n then 1 else 0) := rfl
def bI (p : Bool) : Int32 := if p then 1 else 0
theorem bI_0 (p : Bool) : bI p = 0 ↔ p = false := by cases p <;> decide
theorem ckB_b (p : Bool) : ckB (bI p) = some () := by cases p <;> decide
theorem nI_lits : (0 : Int32) = nI 0 ∧ (1 : Int32) = nI 1 ∧ (2 : Int32) = nI 2 ∧ (3 : Int32) = nI 3 ∧ (4 : Int32) = nI 4 ∧ (5 : Int32) = nI 5 ∧ (6 : Int32) = nI 6 ∧ (7 : Int32) = nI 7 ∧ (8 : Int32) = nI 8 ∧ (9 : Int32) = nI 9 ∧ (10 : Int32) = nI 10 := by decide
theorem c_0 : (0 : Int32) = nI 0 := rfl
theorem c_1 : (1 : Int32) = nI 1 := rfl
theorem c_2 : (2 : Int32) = nI 2 := rfl
theorem c_3 : (3 : Int32) = nI 3 := rfl
theorem c_4 : (4 : Int32) = nI 4 := rfl
theorem c_5 : (5 : Int32) = nI 5 := rfl
theorem c_6 : (6 : Int32) = nI 6 := rfl
theorem c_7 : (7 : Int32) = nI 7 := rfl
theorem c_8 : (8 : Int32) = nI 8 := rfl
theorem c_9 : (9 : Int32) = nI 9 := rfl
theorem c_10 : (10 : Int32) = nI 10 := rfl
theorem c_12 : (12 : Int32) = nI 12 := rfl
theorem c_15 : (15 : Int32) = nI 15 := rfl
theorem c_20 : (20 : Int32) = nI 20 := rfl
theorem c_25 : (25 : Int32) = nI 25 := rfl
theorem c_30 : (30 : Int32) = nI 30 := rfl
theorem c_40 : (40 : Int32) = nI 40 := rfl
theorem c_50 : (50 : Int32) = nI 50 := rfl
theorem c_60 : (60 : Int32) = nI 60 := rfl
theorem c_64 : (64 : Int32) = nI 64 := rfl
theorem c_100 : (100 : Int32) = nI 100 := rfl
theorem c_170 : (170 : Int32) = nI 170 := rfl
theorem c_171 : (171 : Int32) = nI 171 := rfl
theorem c_181 : (181 : Int32) = nI 181 := rfl
theorem c_191 : (191 : Int32) = nI 191 := rfl
theorem c_200 : (200 : Int32) = nI 200 := rfl
theorem c_201 : (201 : Int32) = nI 201 := rfl
theorem c_211 : (211 : Int32) = nI 211 := rfl
theorem c_212 : (212 : Int32) = nI 212 := rfl
theorem c_300 : (300 : Int32) = nI 300 := rfl
theorem c_301 : (301 : Int32) = nI 301 := rfl
theorem tI (x : Int32) : x = Int32.ofInt x.toInt := by simp
theorem iAbs_le {a b c : Nat} (ha : a < 2 ^ 30) (hb : b < 2 ^ 30) (hc : c < 2 ^ 30) : iAbs (nI a - nI b) ≤ nI c ↔ a ≤ b + c ∧ b ≤ a + c := by
  unfold iAbs
  by_cases h : b ≤ a
  · rw [pk_sub h, if_pos (nI_pos' (by omega)), nI_leI (by omega) (by omega)]
    omega
  · have h0 : ¬ 0 ≤ nI a - nI b := Int32.not_le.mpr (pk_sneg hb (by omega))
    rw [if_neg h0]
    have e : (0 : Int32) - (nI a - nI b) = nI b - nI a := by
      rw [Int32.zero_sub, Int32.neg_sub]
    rw [e, pk_sub (by omega), nI_leI (by omega) (by omega)]
    omega
theorem iAbs_sub {a b : Nat} (ha : a < 2 ^ 30) (hb : b < 2 ^ 30) : iAbs (nI a - nI b) = nI ((a - b) + (b - a)) := by
  unfold iAbs
  by_cases h : b ≤ a
  · rw [pk_sub h, if_pos (nI_pos' (by omega)), show b - a = 0 by omega, Nat.add_zero]
  · have h0 : ¬ 0 ≤ nI a - nI b := Int32.not_le.mpr (pk_sneg hb (by omega))
    rw [if_neg h0]
    have e : (0 : Int32) - (nI a - nI b) = nI b - nI a := by
      rw [Int32.zero_sub, Int32.neg_sub]
    rw [e, pk_sub (by omega), show a - b = 0 by omega, Nat.zero_add]
theorem nI_neg_lt {a b : Nat} (ha : a < 2 ^ 30) (hb : b < 2 ^ 30) : nI a - nI b < 0 ↔ a < b := by
  by_cases h : b ≤ a
  · rw [pk_sub h]
    exact ⟨fun q => absurd q (nI_pos (by omega)), fun q => by omega⟩
  · exact ⟨fun _ => by omega, fun q => pk_sneg hb (by omega)⟩
theorem nI_neg_sub {a b : Nat} : -(nI a - nI b) = nI b - nI a := Int32.neg_sub
theorem iAbs_lt {a b c : Nat} (ha : a < 2 ^ 30) (hb : b < 2 ^ 30) (hc : c < 2 ^ 30) : nI c < iAbs (nI a - nI b) ↔ ¬ (a ≤ b + c ∧ b ≤ a + c) := by
  rw [← iAbs_le ha hb hc, Int32.not_le]
