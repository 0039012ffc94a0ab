/-! THE STATE, in numbers: s i for i below 212, as the reference lays it out -/
abbrev Sg : Type := Nat → Nat
def Vd (s : Sg) : Prop :=
  (∀ q, q < 10 → s q ≤ 60 ∧ s (10 + q) ≤ 40 ∧ s (20 + q) ≤ 3) ∧ (∀ q i, q < 10 → i < 2 → s (30 + 10 * i + q) ≤ 6) ∧ (∀ q i k, q < 10 → i < 2 → k < 6 → s (50 + 12 * q + 6 * i + k) ≤ 50) ∧ s 170 ≤ 100 ∧ s 211 ≤ 10 ∧
  (∀ m, m < 10 → s (171 + m) < 10 ∧ s (181 + m) ≤ 200 ∧ s (191 + m) ≤ 60 ∧ s (201 + m) ≤ 5) ∧ (∀ m, m < s 211 → 1 ≤ s (201 + m)) ∧ (∀ m k, m < s 211 → k < s 211 → s (171 + m) = s (171 + k) → s (181 + m) = s (181 + k) → m = k)
/-- the reference's row holds the state -/
def M8 (d : Da) (s : Sg) : Prop := ∀ i, i < 212 → d 244 i = nI (s i)
/-- a stage of the program holds the state (what is beyond the counts is free) -/
def StR (d : Da) (p : Nat) (s : Sg) : Prop :=
  (∀ q w, q < 10 → w < 3 → d (lSet p q) w = nI (s (10 * w + q))) ∧ (∀ q i, q < 10 → i < 2 → d (lPil p q i) 1 = nI (s (30 + 10 * i + q))) ∧ (∀ q i k, q < 10 → i < 2 → k < s (30 + 10 * i + q) → d (lWei p q i) k = nI (s (50 + 12 * q + 6 * i + k))) ∧
  d p 2 = nI (s 211) ∧ d p 3 = nI (s 170) ∧ (∀ m f, m < s 211 → f < 4 → d (lMov p m) f = nI (s (171 + 10 * f + m)))
theorem StR.se {d : Da} {p : Nat} {s : Sg} (h : StR d p s) {q w : Nat} (hq : q < 10) (hw : w < 3) : d (lSet p q) w = nI (s (10 * w + q)) := h.1 q w hq hw
theorem StR.s0 {d : Da} {p : Nat} {s : Sg} (h : StR d p s) {q : Nat} (hq : q < 10) : d (lSet p q) 0 = nI (s q) := by
  have e := h.se hq (w := 0) (by omega)
  rw [Nat.mul_zero, Nat.zero_add] at e
  exact e
theorem StR.s1 {d : Da} {p : Nat} {s : Sg} (h : StR d p s) {q : Nat} (hq : q < 10) : d (lSet p q) 1 = nI (s (10 + q)) := h.se hq (by omega)
theorem StR.s2 {d : Da} {p : Nat} {s : Sg} (h : StR d p s) {q : Nat} (hq : q < 10) : d (lSet p q) 2 = nI (s (20 + q)) := h.se hq (by omega)
theorem StR.pi {d : Da} {p : Nat} {s : Sg} (h : StR d p s) {q i : Nat} (hq : q < 10) (hi : i < 2) : d (lPil p q i) 1 = nI (s (30 + 10 * i + q)) := h.2.1 q i hq hi
theorem StR.we {d : Da} {p : Nat} {s : Sg} (h : StR d p s) {q i k : Nat} (hq : q < 10) (hi : i < 2) (hk : k < s (30 + 10 * i + q)) : d (lWei p q i) k = nI (s (50 + 12 * q + 6 * i + k)) := h.2.2.1 q i k hq hi hk
theorem StR.cn {d : Da} {p : Nat} {s : Sg} (h : StR d p s) : d p 2 = nI (s 211) := h.2.2.2.1
theorem StR.sw {d : Da} {p : Nat} {s : Sg} (h : StR d p s) : d p 3 = nI (s 170) := h.2.2.2.2.1
theorem StR.m0 {d : Da} {p : Nat} {s : Sg} (h : StR d p s) {m : Nat} (hm : m < s 211) : d (lMov p m) 0 = nI (s (171 + m)) := h.2.2.2.2.2 m 0 hm (by omega)
theorem StR.m1 {d : Da} {p : Nat} {s : Sg} (h : StR d p s) {m : Nat} (hm : m < s 211) : d (lMov p m) 1 = nI (s (181 + m)) := h.2.2.2.2.2 m 1 hm (by omega)
theorem StR.m2 {d : Da} {p : Nat} {s : Sg} (h : StR d p s) {m : Nat} (hm : m < s 211) : d (lMov p m) 2 = nI (s (191 + m)) := h.2.2.2.2.2 m 2 hm (by omega)
theorem StR.m3 {d : Da} {p : Nat} {s : Sg} (h : StR d p s) {m : Nat} (hm : m < s 211) : d (lMov p m) 3 = nI (s (201 + m)) := h.2.2.2.2.2 m 3 hm (by omega)
section VD
variable {s : Sg} (h : Vd s) {q i k m : Nat}
theorem Vd.ho (h : Vd s) (hq : q < 10) : s q ≤ 60 := (h.1 q hq).1
theorem Vd.dr (h : Vd s) (hq : q < 10) : s (10 + q) ≤ 40 := (h.1 q hq).2.1
theorem Vd.re (h : Vd s) (hq : q < 10) : s (20 + q) ≤ 3 := (h.1 q hq).2.2
theorem Vd.mn (h : Vd s) (hq : q < 10) (hi : i < 2) : s (30 + 10 * i + q) ≤ 6 := h.2.1 q i hq hi
theorem Vd.we (h : Vd s) (hq : q < 10) (hi : i < 2) (hk : k < 6) : s (50 + 12 * q + 6 * i + k) ≤ 50 := h.2.2.1 q i k hq hi hk
theorem Vd.sw (h : Vd s) : s 170 ≤ 100 := h.2.2.2.1
theorem Vd.ln (h : Vd s) : s 211 ≤ 10 := h.2.2.2.2.1
theorem Vd.of (h : Vd s) (hm : m < 10) : s (171 + m) < 10 := (h.2.2.2.2.2.1 m hm).1
theorem Vd.bg (h : Vd s) (hm : m < 10) : s (181 + m) ≤ 200 := (h.2.2.2.2.2.1 m hm).2.1
theorem Vd.to (h : Vd s) (hm : m < 10) : s (191 + m) ≤ 60 := (h.2.2.2.2.2.1 m hm).2.2.1
theorem Vd.pc (h : Vd s) (hm : m < 10) : s (201 + m) ≤ 5 := (h.2.2.2.2.2.1 m hm).2.2.2
theorem Vd.p1 (h : Vd s) (hm : m < s 211) : 1 ≤ s (201 + m) := h.2.2.2.2.2.2.1 m hm
theorem Vd.un (h : Vd s) (hm : m < s 211) (hk : k < s 211) (h1 : s (171 + m) = s (171 + k)) (h2 : s (181 + m) = s (181 + k)) : m = k := h.2.2.2.2.2.2.2 m k hm hk h1 h2
end VD
/-! WHAT IS TOLD OF A STATE -/
/-- all weights of a side together -/
def tog (s : Sg) (q i : Nat) : Nat := sN (fun k => s (50 + 12 * q + 6 * i + k)) (s (30 + 10 * i + q))
theorem tog_le {s : Sg} (h : Vd s) {q i : Nat} (hq : q < 10) (hi : i < 2) : tog s q i ≤ 300 := by
  have h1 := sN_le (f := fun k => s (50 + 12 * q + 6 * i + k)) (c := 50) (s (30 + 10 * i + q)) (fun k hk => h.we hq hi (by have := h.mn hq hi; omega))
  have h2 := h.mn hq hi
  unfold tog
  omega
def evn (s : Sg) (q : Nat) : Bool := decide (tog s q 0 ≤ tog s q 1 + s 170 ∧ tog s q 1 ≤ tog s q 0 + s 170)
def ner (s : Sg) (q r : Nat) : Bool := decide (q ≤ r + (s (20 + q) + s (20 + r)) ∧ r ≤ q + (s (20 + q) + s (20 + r)))
/-- of the first n moves of bar q that begin at t or later that which begins first -/
def fm (s : Sg) (q t : Nat) : Nat → Option Nat
  | 0 => none
  | n + 1 => if s (171 + n) = q ∧ t ≤ s (181 + n) then (match fm s q t n with
      | none => some n
      | some m => if s (181 + n) < s (181 + m) then some n else some m) else fm s q t n
theorem fm_none {s : Sg} {q t : Nat} : ∀ n, fm s q t n = none → ∀ m, m < n → ¬ (s (171 + m) = q ∧ t ≤ s (181 + m))
  | 0, _, m, hm => by omega
  | n + 1, h, m, hm => by
    simp only [fm] at h
    by_cases hc : s (171 + n) = q ∧ t ≤ s (181 + n)
    · rw [if_pos hc] at h
      cases hf : fm s q t n with
      | none => rw [hf] at h; cases h
      | some k =>
        rw [hf] at h
        dsimp only at h
        split at h <;> cases h
    · rw [if_neg hc] at h
      by_cases e : m = n
      · subst e; exact hc
      · exact fm_none n h m (by omega)
theorem fm_some {s : Sg} {q t : Nat} : ∀ n r, fm s q t n = some r → r < n ∧ s (171 + r) = q ∧ t ≤ s (181 + r) ∧ ∀ m, m < n → s (171 + m) = q → t ≤ s (181 + m) → s (181 + r) ≤ s (181 + m)
  | 0, r, h => by cases h
  | n + 1, r, h => by
    simp only [fm] at h
    by_cases hc : s (171 + n) = q ∧ t ≤ s (181 + n)
    · rw [if_pos hc] at h
      cases hf : fm s q t n with
      | none =>
        rw [hf] at h
        cases h
        refine ⟨by omega, hc.1, hc.2, fun m hm h1 h2 => ?_⟩
        by_cases e : m = n
        · subst e; omega
        · exact absurd ⟨h1, h2⟩ (fm_none n hf m (by omega))
      | some k =>
        rw [hf] at h
        dsimp only at h
        obtain ⟨k1, k2, k3, k4⟩ := fm_some n k hf
        split at h
        · rename_i hlt
          cases h
          refine ⟨by omega, hc.1, hc.2, fun m hm h1 h2 => ?_⟩
          by_cases e : m = n
          · subst e; omega
          · have := k4 m (by omega) h1 h2; omega
        · rename_i hlt
          cases h
          refine ⟨by omega, k2, k3, fun m hm h1 h2 => ?_⟩
          by_cases e : m = n
          · subst e; omega
          · exact k4 m (by omega) h1 h2
    · rw [if_neg hc] at h
      obtain ⟨k1, k2, k3, k4⟩ := fm_some n r h
      refine ⟨by omega, k2, k3, fun m hm h1 h2 => ?_⟩
      by_cases e : m = n
      · subst e; exact absurd ⟨h1, h2⟩ hc
      · exact k4 m (by omega) h1 h2
def oI (r : Option Nat) : Int32 := match r with
  | none => -1
  | some m => nI m
def mvs (s : Sg) (q : Nat) : Nat := cN (fun m => decide (s (171 + m) = q)) (s 211)
