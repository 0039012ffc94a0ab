/-! HANDS, as numbers: a moves, cp k i says that one hand can do both -/
section COLOR
variable (cp : Nat → Nat → Prop) (L a : Nat)
def Pr (c : Sg) : Prop := (∀ k, k < a → c k < L) ∧ ∀ i k, i < k → k < a → c i = c k → cp k i
def Cpl (j : Nat) (c : Sg) : Prop := ∃ c', Pr cp L a c' ∧ ∀ k, k < j → c' k = c k
def LF (c : Sg) : Prop := Pr cp L a c ∧ ∀ j, j < a → ∀ h, h < c j → ¬ Cpl cp L a (j + 1) (sU c j h)
end COLOR
section COLOR2
variable {cp : Nat → Nat → Prop} {L a : Nat}
theorem Cpl.cg {j : Nat} {c c' : Sg} (h : Cpl cp L a j c) (e : ∀ k, k < j → c k = c' k) : Cpl cp L a j c' := by
  obtain ⟨x, h1, h2⟩ := h
  exact ⟨x, h1, fun k hk => (h2 k hk).trans (e k hk)⟩
theorem LF.uq {c c' : Sg} (h : LF cp L a c) (h' : LF cp L a c') : ∀ n, n ≤ a → ∀ j, j < n → c j = c' j
  | 0, _, j, hj => by omega
  | n + 1, hn, j, hj => by
    have ih := LF.uq h h' n (by omega)
    by_cases e : j = n
    · subst e
      rcases Nat.lt_trichotomy (c j) (c' j) with g | g | g
      · exact absurd ⟨c, h.1, fun k hk => by
          by_cases e : k = j
          · rw [e, sU_eq]
          · rw [sU_ne _ _ e]; exact ih k (by omega)⟩ (h'.2 j (by omega) (c j) g)
      · exact g
      · exact absurd ⟨c', h'.1, fun k hk => by
          by_cases e : k = j
          · rw [e, sU_eq]
          · rw [sU_ne _ _ e]; exact (ih k (by omega)).symm⟩ (h.2 j (by omega) (c' j) g)
    · exact ih j (by omega)
theorem nC_all {j : Nat} {c : Sg} (hj : j < a) (h : ∀ x, x < L → ¬ Cpl cp L a (j + 1) (sU c j x)) : ¬ Cpl cp L a j c := by
  rintro ⟨c', p, e⟩
  refine h (c' j) (p.1 j hj) ⟨c', p, fun k hk => ?_⟩
  by_cases g : k = j
  · rw [g, sU_eq]
  · rw [sU_ne _ _ g]; exact e k (by omega)
theorem nC_conf {j i x : Nat} {c : Sg} (hj : j < a) (hi : i < j) (hc : c i = x) (h : ¬ cp j i) : ¬ Cpl cp L a (j + 1) (sU c j x) := by
  rintro ⟨c', p, e⟩
  refine h (p.2 i j hi hj ?_)
  rw [e i (by omega), e j (by omega), sU_eq, sU_ne _ _ (by omega)]
  exact hc
theorem nC_idle {j x : Nat} {c : Sg} (hj : j < a) (hx : x < L) (h0 : ∀ y, y < x → ¬ Cpl cp L a (j + 1) (sU c j y)) (h1 : ¬ Cpl cp L a (j + 1) (sU c j x)) (h2 : ∀ y, x ≤ y → y < L → ∀ i, i < j → c i ≠ y) : ¬ Cpl cp L a j c := by
  refine nC_all hj (fun y hy => ?_)
  rcases Nat.lt_trichotomy y x with g | g | g
  · exact h0 y g
  · rw [g]; exact h1
  · rintro ⟨c', p, e⟩
    have ej : c' j = y := by rw [e j (by omega), sU_eq]
    refine h1 ⟨fun k => if c' k = x then y else if c' k = y then x else c' k, ⟨fun k hk => ?_, fun i k hi hk hh => ?_⟩, fun k hk => ?_⟩
    · have := p.1 k hk
      dsimp only
      split
      · exact hy
      · split
        · exact hx
        · exact this
    · refine p.2 i k hi hk ?_
      dsimp only at hh
      split at hh <;> split at hh <;> (try split at hh) <;> (try split at hh) <;> omega
    · dsimp only
      by_cases g2 : k = j
      · subst g2
        rw [sU_eq, ej, if_neg (by omega), if_pos rfl]
      · have e2 := e k hk
        rw [sU_ne _ _ g2] at e2 ⊢
        rw [e2, if_neg (h2 x (Nat.le_refl x) hx k (by omega)), if_neg (h2 y (by omega) hy k (by omega))]
end COLOR2
/-! sets as masks -/
def mkm (p : Nat → Bool) : Nat → Nat
  | 0 => 0
  | n + 1 => if p n then mkm p n ||| 2 ^ n else mkm p n
theorem mkm_tb (p : Nat → Bool) : ∀ n k, (mkm p n).testBit k = (decide (k < n) && p k)
  | 0, k => by simp [mkm]
  | n + 1, k => by
    have ih := mkm_tb p n k
    simp only [mkm]
    by_cases e : n = k
    · subst e
      cases h : p n with
      | true => rw [if_pos rfl, z_tb]; simp
      | false => rw [if_neg (by decide), ih]; simp [h]
    · have e2 : decide (k < n + 1) = decide (k < n) := by
        have : (k < n + 1) = (k < n) := by apply propext; omega
        simp only [this]
      rw [e2]
      cases h : p n with
      | true => rw [if_pos rfl, z_tb, ih]; simp [e]
      | false => rw [if_neg (by decide), ih]
theorem mkm_lt (p : Nat → Bool) : ∀ n, mkm p n < 2 ^ n
  | 0 => by simp [mkm]
  | n + 1 => by
    have ih := mkm_lt p n
    have e : 2 ^ (n + 1) = 2 ^ n + 2 ^ n := by rw [Nat.pow_succ]; omega
    simp only [mkm]
    split
    · exact z_lt (by omega) (by omega)
    · omega
def sub (Y X : Nat) : Prop := ∀ k, Y.testBit k = true → X.testBit k = true
theorem x_sub {X Y : Nat} (h : sub Y X) (k : Nat) : (X ^^^ Y).testBit k = (X.testBit k && !Y.testBit k) := by
  rw [Nat.testBit_xor]
  have := h k
  cases h1 : X.testBit k <;> cases h2 : Y.testBit k <;> simp_all
theorem le_sub {X Y : Nat} (h : sub Y X) : Y ≤ X := by
  have : X &&& Y = Y := by
    apply Nat.eq_of_testBit_eq
    intro k
    rw [Nat.testBit_and]
    have := h k
    cases h1 : X.testBit k <;> cases h2 : Y.testBit k <;> simp_all
  rw [← this]
  exact Nat.and_le_left
theorem lt_xor {X Y : Nat} (h : sub Y X) (h0 : Y ≠ 0) : X ^^^ Y < X := by
  have h1 : X ^^^ Y ≤ X := le_sub (fun k hk => by
    rw [x_sub h] at hk
    simp at hk
    exact hk.1)
  have h2 : X ^^^ Y ≠ X := fun e => h0 (by
    apply Nat.eq_of_testBit_eq
    intro k
    have e1 := x_sub h k
    rw [e] at e1
    rw [Nat.zero_testBit]
    have := h k
    cases h1 : X.testBit k <;> cases h2 : Y.testBit k <;> simp_all)
  omega
section COLOR3
variable {cp : Nat → Nat → Prop} {a : Nat}
def cB (cp : Nat → Nat → Prop) (a L X : Nat) : Prop := ∃ c : Sg, (∀ k, k < a → X.testBit k = true → c k < L) ∧ ∀ i k, i < k → k < a → X.testBit i = true → X.testBit k = true → c i = c k → cp k i
def oneH (cp : Nat → Nat → Prop) (a Y : Nat) : Prop := ∀ i k, i < k → k < a → Y.testBit i = true → Y.testBit k = true → cp k i
theorem cB_a (X : Nat) : cB cp a a X := ⟨fun k => k, fun k hk _ => hk, fun i k hi _ _ _ e => absurd (show i = k from e) (by omega)⟩
theorem cB_mono {L L' X : Nat} (h : cB cp a L X) (hl : L ≤ L') : cB cp a L' X := by
  obtain ⟨c, h1, h2⟩ := h
  exact ⟨c, fun k hk hb => by have := h1 k hk hb; omega, h2⟩
theorem cB_step {L X Y : Nat} (hs : sub Y X) (h : cB cp a L (X ^^^ Y)) (ho : oneH cp a Y) : cB cp a (L + 1) X := by
  obtain ⟨c, h1, h2⟩ := h
  have z : ∀ k, X.testBit k = true → Y.testBit k = false → (X ^^^ Y).testBit k = true := fun k a1 a2 => by rw [x_sub hs, a1, a2]; rfl
  refine ⟨fun k => if Y.testBit k then L else c k, fun k hk hb => ?_, fun i k hi hk b1 b2 e => ?_⟩
  · dsimp only
    cases hy : Y.testBit k with
    | true => simp
    | false =>
      have := h1 k hk (z k hb hy)
      simp only [Bool.false_eq_true, if_false]
      omega
  · dsimp only at e
    cases y1 : Y.testBit i with
    | true =>
      cases y2 : Y.testBit k with
      | true => exact ho i k hi hk y1 y2
      | false =>
        have := h1 k hk (z k b2 y2)
        rw [y1, y2] at e
        simp only [Bool.false_eq_true, if_false, if_true] at e
        omega
    | false =>
      have g1 := h1 i (by omega) (z i b1 y1)
      cases y2 : Y.testBit k with
      | true =>
        rw [y1, y2] at e
        simp only [Bool.false_eq_true, if_false, if_true] at e
        omega
      | false =>
        rw [y1, y2] at e
        simp only [Bool.false_eq_true, if_false] at e
        exact h2 i k hi hk (z i b1 y1) (z k b2 y2) e
theorem cB_dec {L X : Nat} (h : cB cp a (L + 1) X) : ∃ Y, sub Y X ∧ Y < 2 ^ a ∧ oneH cp a Y ∧ cB cp a L (X ^^^ Y) := by
  obtain ⟨c, h1, h2⟩ := h
  have t := mkm_tb (fun k => X.testBit k && decide (c k = L)) a
  have hs : sub (mkm (fun k => X.testBit k && decide (c k = L)) a) X := fun k hk => by
    rw [t] at hk
    simp at hk
    exact hk.2.1
  refine ⟨mkm (fun k => X.testBit k && decide (c k = L)) a, hs, mkm_lt _ _, fun i k hi hk b1 b2 => ?_, c, fun k hk hb => ?_, fun i k hi hk b1 b2 e => ?_⟩
  · rw [t] at b1 b2
    simp at b1 b2
    exact h2 i k hi hk b1.2.1 b2.2.1 (by omega)
  · rw [x_sub hs, t] at hb
    simp [hk] at hb
    have := h1 k hk hb.1
    rcases hb.2 with g | g
    · rw [hb.1] at g; cases g
    · omega
  · rw [x_sub hs] at b1 b2
    simp at b1 b2
    exact h2 i k hi hk b1.1 b2.1 e
theorem cB_min {X v : Nat} {tb : Nat → Nat} (hX : X < 2 ^ a) (h0 : X ≠ 0) (h2 : ∀ Y, sub Y X → Y ≠ 0 → oneH cp a Y → v ≤ tb (X ^^^ Y) + 1) (h3 : ∀ Z, Z < X → ∀ L, cB cp a L Z → tb Z ≤ L) : ∀ L, cB cp a L X → v ≤ L
  | 0, h => by
    obtain ⟨c, g1, _⟩ := h
    exact absurd (Nat.eq_of_testBit_eq (fun k => by
      rw [Nat.zero_testBit]
      cases hb : X.testBit k with
      | false => rfl
      | true =>
        by_cases hk : k < a
        · exact absurd (g1 k hk hb) (by omega)
        · rw [Nat.testBit_lt_two_pow (Nat.lt_of_lt_of_le hX (z_pw (by omega)))] at hb
          cases hb)) h0
  | L + 1, h => by
    obtain ⟨Y, y1, y2, y3, y4⟩ := cB_dec h
    by_cases e : Y = 0
    · rw [e, Nat.xor_zero] at y4
      have := cB_min hX h0 h2 h3 L y4
      omega
    · have g1 := h2 Y y1 e y3
      have g2 := h3 (X ^^^ Y) (lt_xor y1 e) L y4
      omega
theorem cB_full (L : Nat) (c0 : Sg) : cB cp a L (2 ^ a - 1) ↔ Cpl cp L a 0 c0 := by
  have t : ∀ k, k < a → (2 ^ a - 1).testBit k = true := fun k hk => by rw [Nat.testBit_two_pow_sub_one]; simp [hk]
  constructor
  · rintro ⟨c, h1, h2⟩
    exact ⟨c, ⟨fun k hk => h1 k hk (t k hk), fun i k hi hk e => h2 i k hi hk (t i (by omega)) (t k hk) e⟩, fun k hk => absurd hk (by omega)⟩
  · rintro ⟨c, ⟨h1, h2⟩, _⟩
    exact ⟨c, fun k hk _ => h1 k hk, fun i k hi hk _ _ e => h2 i k hi hk e⟩
end COLOR3
/-- the next smaller subset -/
theorem sub_next : ∀ y X z : Nat, sub y X → sub z X → z < y → z ≤ (y - 1) &&& X := by
  intro y
  induction y using Nat.strongRecOn with
  | _ y ih =>
    intro X z hy hz hlt
    have d : ∀ {u : Nat}, sub u X → sub (u / 2) (X / 2) := fun {u} h k hk => by
      rw [Nat.testBit_div_two] at hk ⊢
      exact h (k + 1) hk
    have e0 : ∀ {u : Nat}, sub u X → u % 2 ≤ X % 2 := fun {u} h => by
      have h0 := h 0
      rw [Nat.testBit_zero, Nat.testBit_zero] at h0
      simp at h0
      omega
    have q1 : ((y - 1) &&& X) / 2 = (y - 1) / 2 &&& X / 2 := Nat.and_div_two
    have q2 : ((y - 1) &&& X) % 2 = if (y - 1) % 2 = 1 ∧ X % 2 = 1 then 1 else 0 := by
      have := @Nat.and_mod_two_eq_one (y - 1) X
      split
      · rename_i h
        exact this.mpr h
      · rename_i h
        have h3 : ¬ ((y - 1) &&& X) % 2 = 1 := fun g => h (this.mp g)
        omega
    by_cases c : y % 2 = 1
    · have g1 : (y - 1) / 2 &&& X / 2 = y / 2 := by
        rw [show (y - 1) / 2 = y / 2 by omega]
        apply Nat.eq_of_testBit_eq
        intro k
        rw [Nat.testBit_and]
        have := d hy k
        cases h1 : (y / 2).testBit k <;> simp_all
      omega
    · have g1 := ih (y / 2) (by omega) (X / 2) (z / 2) (d hy) (d hz) (by omega)
      have g2 := e0 hz
      rw [show y / 2 - 1 = (y - 1) / 2 by omega] at g1
      have g3 : (y - 1) % 2 = 1 := by omega
      by_cases c2 : X % 2 = 1
      · rw [if_pos ⟨g3, c2⟩] at q2
        omega
      · rw [if_neg (fun g => c2 g.2)] at q2
        omega
