/-! HEIGHTS AND ENDS -/
/-- of the first n moves of bar q that begin ahead of t that which begins last -/
def lb (s : Sg) (q t : Nat) : Nat → Option Nat
  | 0 => none
  | n + 1 => if s (171 + n) = q ∧ s (181 + n) < t then (match lb s q t n with
      | none => some n
      | some m => if s (181 + m) < s (181 + n) then some n else some m) else lb s q t n
theorem lb_none {s : Sg} {q t : Nat} : ∀ n, lb s q t n = none → ∀ m, m < n → ¬ (s (171 + m) = q ∧ s (181 + m) < t)
  | 0, _, m, hm => by omega
  | n + 1, h, m, hm => by
    simp only [lb] at h
    by_cases hc : s (171 + n) = q ∧ s (181 + n) < t
    · rw [if_pos hc] at h
      cases hf : lb s q t n with
      | none => rw [hf] at h; cases h
      | some k =>
        rw [hf] at h
        dsimp only at h
        split at h <;> cases h
    · rw [if_neg hc] at h
      by_cases e : m = n
      · subst e; exact hc
      · exact lb_none n h m (by omega)
theorem lb_some {s : Sg} {q t : Nat} : ∀ n r, lb s q t n = some r → r < n ∧ s (171 + r) = q ∧ s (181 + r) < t ∧ ∀ m, m < n → s (171 + m) = q → s (181 + m) < t → s (181 + m) ≤ s (181 + r)
  | 0, r, h => by cases h
  | n + 1, r, h => by
    simp only [lb] at h
    by_cases hc : s (171 + n) = q ∧ s (181 + n) < t
    · rw [if_pos hc] at h
      cases hf : lb s q t n with
      | none =>
        rw [hf] at h
        cases h
        refine ⟨by omega, hc.1, hc.2, fun m hm h1 h2 => ?_⟩
        by_cases e : m = n
        · subst e; omega
        · exact absurd ⟨h1, h2⟩ (lb_none n hf m (by omega))
      | some k =>
        rw [hf] at h
        dsimp only at h
        obtain ⟨k1, k2, k3, k4⟩ := lb_some n k hf
        split at h
        · rename_i hlt
          cases h
          refine ⟨by omega, hc.1, hc.2, fun m hm h1 h2 => ?_⟩
          by_cases e : m = n
          · subst e; omega
          · have := k4 m (by omega) h1 h2; omega
        · rename_i hlt
          cases h
          refine ⟨by omega, k2, k3, fun m hm h1 h2 => ?_⟩
          by_cases e : m = n
          · subst e; omega
          · exact k4 m (by omega) h1 h2
    · rw [if_neg hc] at h
      obtain ⟨k1, k2, k3, k4⟩ := lb_some n r h
      refine ⟨by omega, k2, k3, fun m hm h1 h2 => ?_⟩
      by_cases e : m = n
      · subst e; exact absurd ⟨h1, h2⟩ hc
      · exact k4 m (by omega) h1 h2
theorem lb_is {s : Sg} (hV : Vd s) {q t r : Nat} (h0 : r < s 211) (h1 : s (171 + r) = q) (h2 : s (181 + r) < t) (h3 : ∀ m, m < s 211 → s (171 + m) = q → s (181 + m) < t → s (181 + m) ≤ s (181 + r)) : lb s q t (s 211) = some r := by
  cases hf : lb s q t (s 211) with
  | none => exact absurd ⟨h1, h2⟩ (lb_none _ hf r h0)
  | some k =>
    obtain ⟨k1, k2, k3, k4⟩ := lb_some _ k hf
    have e1 := h3 k k1 k2 k3
    have e2 := k4 r h0 h1 h2
    rw [hV.un k1 h0 (by omega) (by omega)]
theorem lb_no {s : Sg} {q t : Nat} (h : ∀ m, m < s 211 → s (171 + m) = q → ¬ s (181 + m) < t) : lb s q t (s 211) = none := by
  cases hf : lb s q t (s 211) with
  | none => rfl
  | some k =>
    obtain ⟨k1, k2, k3, k4⟩ := lb_some _ k hf
    exact absurd k3 (h k k1 k2)
theorem fm_is {s : Sg} (hV : Vd s) {q t r : Nat} (h0 : r < s 211) (h1 : s (171 + r) = q) (h2 : t ≤ s (181 + r)) (h3 : ∀ m, m < s 211 → s (171 + m) = q → t ≤ s (181 + m) → s (181 + r) ≤ s (181 + m)) : fm s q t (s 211) = some r := by
  cases hf : fm s q t (s 211) with
  | none => exact absurd ⟨h1, h2⟩ (fm_none _ hf r h0)
  | some k =>
    obtain ⟨k1, k2, k3, k4⟩ := fm_some _ k hf
    have e1 := h3 k k1 k2 k3
    have e2 := k4 r h0 h1 h2
    rw [hV.un k1 h0 (by omega) (by omega)]
theorem fm_no {s : Sg} {q t : Nat} (h : ∀ m, m < s 211 → s (171 + m) = q → ¬ t ≤ s (181 + m)) : fm s q t (s 211) = none := by
  cases hf : fm s q t (s 211) with
  | none => rfl
  | some k =>
    obtain ⟨k1, k2, k3, k4⟩ := fm_some _ k hf
    exact absurd k3 (h k k1 k2)
/-- a move begins just at t: it leads from then on -/
theorem lb_hit {s : Sg} (hV : Vd s) {q t m : Nat} (hm : m < s 211) (h1 : s (171 + m) = q) (h2 : s (181 + m) = t) : lb s q (t + 1) (s 211) = some m :=
  lb_is hV hm h1 (by omega) (fun k _ _ h => by omega)
theorem lb_miss {s : Sg} (hV : Vd s) {q t : Nat} (h : ∀ m, m < s 211 → s (171 + m) = q → s (181 + m) ≠ t) : lb s q (t + 1) (s 211) = lb s q t (s 211) ∧ fm s q (t + 1) (s 211) = fm s q t (s 211) := by
  constructor
  · cases hf : lb s q t (s 211) with
    | none => exact lb_no (fun m hm h1 h2 => lb_none _ hf m hm ⟨h1, by have := h m hm h1; omega⟩)
    | some k =>
      obtain ⟨k1, k2, k3, k4⟩ := lb_some _ k hf
      exact lb_is hV k1 k2 (by omega) (fun m hm h1 h2 => k4 m hm h1 (by have := h m hm h1; omega))
  · cases hf : fm s q t (s 211) with
    | none => exact fm_no (fun m hm h1 h2 => fm_none _ hf m hm ⟨h1, by omega⟩)
    | some k =>
      obtain ⟨k1, k2, k3, k4⟩ := fm_some _ k hf
      have := h k k1 k2
      exact fm_is hV k1 k2 (by omega) (fun m hm h1 h2 => k4 m hm h1 (by omega))
def stp (to pc h : Nat) : Nat := if to ≤ h + pc ∧ h ≤ to + pc then to else if h < to then h + pc else h - pc
def hgt (s : Sg) (q : Nat) : Nat → Nat
  | 0 => s q
  | t + 1 => match lb s q (t + 1) (s 211) with
    | none => hgt s q t
    | some m => stp (s (191 + m)) (s (201 + m)) (hgt s q t)
theorem stp_le {to pc h : Nat} (h1 : to ≤ 60) (h2 : h ≤ 60) : stp to pc h ≤ 60 := by
  unfold stp
  split
  · exact h1
  · split <;> omega
theorem hgt_le {s : Sg} (hV : Vd s) {q : Nat} (hq : q < 10) : ∀ t, hgt s q t ≤ 60
  | 0 => hV.ho hq
  | t + 1 => by
    have ih := hgt_le hV hq t
    simp only [hgt]
    cases hf : lb s q (t + 1) (s 211) with
    | none => exact ih
    | some m =>
      have hm := (lb_some _ m hf).1
      have := hV.ln
      exact stp_le (hV.to (by omega)) ih
/-- the limit ahead of which a move ends: when the next one of its bar begins; else 300 -/
def lim (s : Sg) (m : Nat) : Nat := match fm s (s (171 + m)) (s (181 + m) + 1) (s 211) with
  | none => 300
  | some k => s (181 + k)
def fnd (p : Nat → Bool) : Nat → Nat → Nat
  | 0, t => t
  | n + 1, t => if p t then t else fnd p n (t + 1)
theorem fnd_ok {p : Nat → Bool} : ∀ n t, (∃ e, t ≤ e ∧ e < t + n ∧ p e = true) → t ≤ fnd p n t ∧ fnd p n t < t + n ∧ p (fnd p n t) = true ∧ ∀ j, t ≤ j → j < fnd p n t → p j = false
  | 0, t, ⟨e, h1, h2, _⟩ => by omega
  | n + 1, t, ⟨e, h1, h2, h3⟩ => by
    simp only [fnd]
    by_cases c : p t = true
    · rw [if_pos c]
      exact ⟨by omega, by omega, c, fun j g1 g2 => by omega⟩
    · rw [if_neg c]
      have hne : e ≠ t := fun q => c (by rw [← q]; exact h3)
      obtain ⟨k1, k2, k3, k4⟩ := fnd_ok n (t + 1) ⟨e, by omega, by omega, h3⟩
      refine ⟨by omega, by omega, k3, fun j g1 g2 => ?_⟩
      by_cases e2 : j = t
      · subst e2; simpa using c
      · exact k4 j (by omega) g2
/-- when a move ends -/
def eT (s : Sg) (m : Nat) : Nat := fnd (fun e => decide (lim s m ≤ e) || decide (hgt s (s (171 + m)) e = s (191 + m))) 400 (s (181 + m))
theorem lim_ok {s : Sg} (hV : Vd s) {m : Nat} (hm : m < s 211) : s (181 + m) < lim s m ∧ lim s m ≤ 300 := by
  have h10 := hV.ln
  unfold lim
  cases hf : fm s (s (171 + m)) (s (181 + m) + 1) (s 211) with
  | none => have := hV.bg (m := m) (by omega); dsimp only; omega
  | some k =>
    obtain ⟨k1, k2, k3, k4⟩ := fm_some _ k hf
    have := hV.bg (m := k) (by omega)
    dsimp only
    omega
theorem eT_ok {s : Sg} (hV : Vd s) {m : Nat} (hm : m < s 211) : s (181 + m) ≤ eT s m ∧ eT s m ≤ lim s m ∧ (eT s m = lim s m ∨ hgt s (s (171 + m)) (eT s m) = s (191 + m)) ∧ ∀ j, s (181 + m) ≤ j → j < eT s m → j < lim s m ∧ hgt s (s (171 + m)) j ≠ s (191 + m) := by
  obtain ⟨l1, l2⟩ := lim_ok hV hm
  have h10 := hV.ln
  have hb := hV.bg (m := m) (by omega)
  obtain ⟨k1, k2, k3, k4⟩ := fnd_ok (p := fun e => decide (lim s m ≤ e) || decide (hgt s (s (171 + m)) e = s (191 + m))) 400 (s (181 + m)) ⟨lim s m, by omega, by omega, by simp⟩
  have e : fnd (fun e => decide (lim s m ≤ e) || decide (hgt s (s (171 + m)) e = s (191 + m))) 400 (s (181 + m)) = eT s m := rfl
  rw [e] at k1 k2 k3 k4
  have hj : ∀ j, s (181 + m) ≤ j → j < eT s m → j < lim s m ∧ hgt s (s (171 + m)) j ≠ s (191 + m) := fun j g1 g2 => by
    have := k4 j g1 g2
    simp at this
    exact ⟨by omega, this.2⟩
  have hle : eT s m ≤ lim s m := by
    rcases Nat.lt_or_ge (lim s m) (eT s m) with g | g
    · have := hj (lim s m) (by omega) g
      omega
    · exact g
  refine ⟨k1, hle, ?_, hj⟩
  simp at k3
  rcases k3 with g | g
  · exact Or.inl (by omega)
  · exact Or.inr g
/-- without a next one of its bar a move comes to its height, by 260 -/
theorem eT_in {s : Sg} (hV : Vd s) {m : Nat} (hm : m < s 211) (hn : fm s (s (171 + m)) (s (181 + m) + 1) (s 211) = none) : hgt s (s (171 + m)) (eT s m) = s (191 + m) := by
  have h10 := hV.ln
  have hq := hV.of (m := m) (by omega)
  have hb := hV.bg (m := m) (by omega)
  have hto := hV.to (m := m) (by omega)
  have hp := hV.p1 hm
  have hlb : ∀ t, s (181 + m) < t → lb s (s (171 + m)) t (s 211) = some m := fun t ht => lb_is hV hm rfl ht (fun k hk h1 h2 => by
    have := fm_none _ hn k hk
    have h3 : ¬ (s (181 + m) + 1 ≤ s (181 + k)) := fun h => this ⟨h1, h⟩
    omega)
  have key : ∀ j, hgt s (s (171 + m)) (s (181 + m) + j) ≤ s (191 + m) + (60 - j) ∧ s (191 + m) ≤ hgt s (s (171 + m)) (s (181 + m) + j) + (60 - j) := by
    intro j
    induction j with
    | zero =>
      have := hgt_le hV hq (s (181 + m))
      rw [Nat.add_zero]
      omega
    | succ j ih =>
      rw [← Nat.add_assoc]
      simp only [hgt, hlb (s (181 + m) + j + 1) (by omega)]
      unfold stp
      split
      · omega
      · split <;> omega
  obtain ⟨l1, l2, l3, l4⟩ := eT_ok hV hm
  rcases l3 with g | g
  · have hl : lim s m = 300 := by unfold lim; rw [hn]
    have k60 := key 60
    have := l4 (s (181 + m) + 60) (by omega) (by omega)
    omega
  · exact g
