section MODA
variable {b : Nat} {d : Da} {q i m : Nat} {s : Sg} {M : Wo}
theorem m_st : gR (wld b d) (b + 243) 8 0 = some (b + 244) := f_mod (by decide)
theorem m_im : gR (wld b d) (b + 243) 8 1 = some (b + 245) := f_mod (by decide)
theorem m_kp : gR (wld b d) (b + 243) 8 2 = some (b + 246) := f_mod (by decide)
theorem m_wy : gR (wld b d) (b + 243) 8 3 = some (b + 247) := f_mod (by decide)
theorem m_ht : gR (wld b d) (b + 243) 8 5 = some (b + 248) := f_mod (by decide)
theorem m_rw : gR (wld b d) (b + 243) 8 6 = some (b + 249) := f_mod (by decide)
theorem m_ab : gR (wld b d) (b + 243) 8 7 = some (b + 250) := f_mod (by decide)
theorem m_en : gR (wld b d) (b + 243) 8 8 = some (b + 251) := f_mod (by decide)
theorem m_on : gR (wld b d) (b + 243) 8 10 = some (b + 252) := f_mod (by decide)
theorem m_le : gR (wld b d) (b + 243) 8 11 = some (b + 253) := f_mod (by decide)
theorem m_ha : gR (wld b d) (b + 243) 8 12 = some (b + 254) := f_mod (by decide)
theorem m_s (h : M8 d s) (hi : i < 212) : lA (wld b d) 0 (b + 244) (nI i) = some (nI (s i)) := by rw [lA_f isA_m.1 hi, h i hi]
theorem X8_in_s (x lo hi : Int32) : X8_in M x lo hi = some (bI (decide (lo ≤ x ∧ x ≤ hi))) := by
  unfold X8_in bI
  by_cases h1 : x < lo
  · have : ¬ (lo ≤ x ∧ x ≤ hi) := fun h => Int32.not_lt.mpr h.1 h1
    rw [if_pos h1, if_neg (by simpa using this)]
  · by_cases h2 : hi < x
    · have : ¬ (lo ≤ x ∧ x ≤ hi) := fun h => Int32.not_lt.mpr h.2 h2
      rw [if_neg h1, if_pos h2, if_neg (by simpa using this)]
    · have : lo ≤ x ∧ x ≤ hi := ⟨Int32.not_lt.mp h1, Int32.not_lt.mp h2⟩
      rw [if_neg h1, if_neg h2, if_pos (by simpa using this)]
theorem X7_within_s (x lo hi : Int32) : X7_within M x lo hi = some (bI (decide (lo ≤ x ∧ x ≤ hi))) := by
  unfold X7_within bI
  by_cases h1 : x < lo
  · have : ¬ (lo ≤ x ∧ x ≤ hi) := fun h => Int32.not_lt.mpr h.1 h1
    rw [if_pos h1, if_neg (by simpa using this)]
  · by_cases h2 : hi < x
    · have : ¬ (lo ≤ x ∧ x ≤ hi) := fun h => Int32.not_lt.mpr h.2 h2
      rw [if_neg h1, if_pos h2, if_neg (by simpa using this)]
    · have : lo ≤ x ∧ x ≤ hi := ⟨Int32.not_lt.mp h1, Int32.not_lt.mp h2⟩
      rw [if_neg h1, if_neg h2, if_pos (by simpa using this)]
theorem X8_isBar_s (x : Int32) : X8_isBar M x = some (bI (decide (0 ≤ x ∧ x ≤ 9))) := by
  unfold X8_isBar
  rw [X8_in_s, Option.bind_some, ckB_b, Option.bind_some]
theorem X7_isBar_s (x : Int32) : X7_isBar M x = some (bI (decide (0 ≤ x ∧ x ≤ 9))) := by
  unfold X7_isBar
  rw [X7_within_s, Option.bind_some, ckB_b, Option.bind_some]
theorem X7_isTime_s (x : Int32) : X7_isTime M x = some (bI (decide (0 ≤ x ∧ x ≤ 300))) := by
  unfold X7_isTime
  rw [X7_within_s, Option.bind_some, ckB_b, Option.bind_some]
/-- a number within bounds is one of them -/
theorem in_nI {x : Int32} {n : Nat} (hn : n < 2 ^ 31) (h : 0 ≤ x ∧ x ≤ nI n) : ∃ j, j ≤ n ∧ x = nI j := nI_of2 (M := nI n) (nI_toInt hn) (Int32.not_lt.mpr h.1) h.2
theorem X8_isMove_s (h : M8 d s) (x : Int32) : X8_isMove (wld b d) (b + 243) x = some (bI (decide (0 ≤ x ∧ x ≤ nI (s 211) - 1))) := by
  unfold X8_isMove
  rw [k_mod, Option.bind_some, m_st, Option.bind_some, c_211, m_s h (by omega), Option.bind_some, X8_in_s, Option.bind_some, ckB_b, Option.bind_some]
theorem X8_size_s {a c : Nat} (ha : a < 2 ^ 30) (hc : c < 2 ^ 30) : X8_size M (nI a - nI c) = some (iAbs (nI a - nI c)) := by
  unfold X8_size iAbs
  by_cases h : (0 : Int32) ≤ nI a - nI c
  · rw [if_pos h, if_pos h]
  · rw [if_neg h, if_neg h, Int32.zero_sub]
theorem X8_many_s (h : M8 d s) (hq : q < 10) (hi : i < 2) : X8_many (wld b d) (b + 243) (nI q) (nI i) = some (nI (s (30 + 10 * i + q))) := by
  unfold X8_many
  simp (disch := omega) only [k_mod, Option.bind_some, m_st, c_30, c_10, pk_mul, nI_add, m_s h]
theorem X8_weight_s {k : Nat} (h : M8 d s) (hq : q < 10) (hi : i < 2) (hk : k < 6) : X8_weight (wld b d) (b + 243) (nI q) (nI i) (nI k) = some (nI (s (50 + 12 * q + 6 * i + k))) := by
  unfold X8_weight
  simp (disch := omega) only [k_mod, Option.bind_some, m_st, c_50, c_12, c_6, pk_mul, nI_add, m_s h]
theorem X8_together_s (h : M8 d s) (hV : Vd s) (hq : q < 10) (hi : i < 2) : X8_together (wld b d) (b + 243) (nI q) (nI i) = some (nI (tog s q i)) := by
  have h6 := hV.mn hq hi
  unfold X8_together
  rw [k_mod, Option.bind_some, wl_count (fun k => (nI (sN (fun k => s (50 + 12 * q + 6 * i + k)) k), nI k)) (s (30 + 10 * i + q)) (nI (tog s q i)) ?_ ?_ (by omega) ?_]
  · rfl
  · intro k hk
    have c1 : ¬ s (30 + 10 * i + q) ≤ k := by omega
    simp (disch := omega) only [un2, X8_together_b5, X8_many_s h hq hi, Option.bind_some, nI_leI, c1, if_false, X8_weight_s h hq hi, nI_add, nI_1, sN]
  · simp (disch := omega) only [un2, X8_together_b5, X8_many_s h hq hi, Option.bind_some, nI_leI, Nat.le_refl, if_true]
    rfl
  · rfl
theorem X8_isEven_s (h : M8 d s) (hV : Vd s) (hq : q < 10) : X8_isEven (wld b d) (b + 243) (nI q) = some (bI (evn s q)) := by
  have t0 := tog_le hV hq (i := 0) (by omega)
  have t1 := tog_le hV hq (i := 1) (by omega)
  have h3 := hV.sw
  unfold X8_isEven
  simp (disch := omega) only [k_mod, Option.bind_some, c_0, c_1, X8_together_s h hV hq, X8_size_s, m_st, c_170, m_s h, iAbs_lt]
  unfold evn bI
  by_cases c : tog s q 0 ≤ tog s q 1 + s 170 ∧ tog s q 1 ≤ tog s q 0 + s 170
  · rw [if_neg (fun h => h c), if_pos (by simpa using c)]
    rfl
  · rw [if_pos c, if_neg (by simpa using c)]
    rfl
theorem X8_movesOf_s (h : M8 d s) (hV : Vd s) (hq : q < 10) : X8_movesOf (wld b d) (b + 243) (nI q) = some (nI (mvs s q)) := by
  have h10 := hV.ln
  unfold X8_movesOf
  rw [k_mod, Option.bind_some, wl_count (fun k => (nI (cN (fun m => decide (s (171 + m) = q)) k), nI k)) (s 211) (nI (mvs s q)) ?_ ?_ (by omega) ?_]
  · rfl
  · intro k hk
    have c1 : ¬ s 211 ≤ k := by omega
    have c2 := hV.of (m := k) (by omega)
    simp (disch := omega) only [un2, X8_movesOf_b4, m_st, c_211, c_171, m_s h, Option.bind_some, nI_leI, c1, if_false, nI_add, nI_eq, cN_succ]
    by_cases c : s (171 + k) = q
    · simp only [c, if_true, decide_true, c_1, nI_add]
    · simp only [c, if_false, decide_false, c_0, c_1, nI_add]
      rfl
  · simp (disch := omega) only [un2, X8_movesOf_b4, m_st, c_211, m_s h, Option.bind_some, nI_leI, Nat.le_refl, if_true]
    rfl
  · rfl
theorem X8_thing_s {k : Nat} (h : M8 d s) (hV : Vd s) (hq : q < 10) (hi : i < 2) (hk : k < 6) : X8_thing (wld b d) (b + 243) (nI q) (nI i) (nI k) = some (if k < s (30 + 10 * i + q) then nI (s (50 + 12 * q + 6 * i + k)) else -6) := by
  have h6 := hV.mn hq hi
  unfold X8_thing
  simp (disch := omega) only [k_mod, Option.bind_some, X8_many_s h hq hi, nI_leI]
  by_cases c : k < s (30 + 10 * i + q)
  · have c1 : ¬ s (30 + 10 * i + q) ≤ k := by omega
    simp (disch := omega) only [c1, c, if_false, if_true, X8_weight_s h hq hi hk, Option.bind_some]
  · have c1 : s (30 + 10 * i + q) ≤ k := by omega
    simp only [c1, c, if_false, if_true]
/-- the last of the first n moves of bar q that begin at t -/
def la (s : Sg) (q t : Nat) : Nat → Option Nat
  | 0 => none
  | n + 1 => if s (171 + n) = q ∧ s (181 + n) = t then some n else la s q t n
def oJ (r : Option Nat) : Int32 := match r with
  | none => -6
  | some m => nI m
theorem la_none {s : Sg} {q t : Nat} : ∀ n, la s q t n = none → ∀ m, m < n → ¬ (s (171 + m) = q ∧ s (181 + m) = t)
  | 0, _, m, hm => by omega
  | n + 1, h, m, hm => by
    simp only [la] at h
    by_cases hc : s (171 + n) = q ∧ s (181 + n) = t
    · rw [if_pos hc] at h; cases h
    · rw [if_neg hc] at h
      by_cases e : m = n
      · subst e; exact hc
      · exact la_none n h m (by omega)
theorem la_some {s : Sg} {q t : Nat} : ∀ n r, la s q t n = some r → r < n ∧ s (171 + r) = q ∧ s (181 + r) = t
  | 0, r, h => by cases h
  | n + 1, r, h => by
    simp only [la] at h
    by_cases hc : s (171 + n) = q ∧ s (181 + n) = t
    · rw [if_pos hc] at h; cases h; exact ⟨by omega, hc.1, hc.2⟩
    · rw [if_neg hc] at h
      obtain ⟨h1, h2⟩ := la_some n r h
      exact ⟨by omega, h2⟩
theorem X8_moveAt_s {t : Nat} (h : M8 d s) (hV : Vd s) (hq : q < 10) (ht : t < 1000) : X8_moveAt (wld b d) (b + 243) (nI q) (nI t) = some (oJ (la s q t (s 211))) := by
  have h10 := hV.ln
  unfold X8_moveAt
  rw [k_mod, Option.bind_some, wl_count (fun k => (oJ (la s q t k), nI k)) (s 211) (oJ (la s q t (s 211))) ?_ ?_ (by omega) ?_]
  · rfl
  · intro k hk
    have c1 : ¬ s 211 ≤ k := by omega
    have c2 := hV.of (m := k) (by omega)
    have c3 := hV.bg (m := k) (by omega)
    simp (disch := omega) only [un2, X8_moveAt_b6, m_st, c_211, c_171, c_181, m_s h, Option.bind_some, nI_leI, c1, if_false, nI_add, nI_eq, nI_1, la]
    by_cases c : s (171 + k) = q
    · by_cases c4 : s (181 + k) = t
      · simp only [c, c4, if_true, and_self]
        rfl
      · simp only [c, c4, if_true, if_false, and_false]
    · simp only [c, if_false, false_and]
  · simp (disch := omega) only [un2, X8_moveAt_b6, m_st, c_211, m_s h, Option.bind_some, nI_leI, Nat.le_refl, if_true]
  · rfl
theorem X8_areNear_s {r : Nat} (h : M8 d s) (hV : Vd s) (hq : q < 10) (hr : r < 10) : X8_areNear (wld b d) (b + 243) (nI q) (nI r) = some (bI (ner s q r)) := by
  have h1 := hV.re hq
  have h2 := hV.re hr
  unfold X8_areNear
  simp (disch := omega) only [k_mod, Option.bind_some, X8_size_s, m_st, c_20, nI_add, m_s h, iAbs_lt]
  unfold ner bI
  by_cases c : q ≤ r + (s (20 + q) + s (20 + r)) ∧ r ≤ q + (s (20 + q) + s (20 + r))
  · rw [if_neg (fun h => h c), if_pos (by simpa using c)]
  · rw [if_pos c, if_neg (by simpa using c)]
theorem X8_evenBars_s (h : M8 d s) (hV : Vd s) : X8_evenBars (wld b d) (b + 243) = some (nI (cN (evn s) 10)) := by
  unfold X8_evenBars
  rw [k_mod, Option.bind_some, wl_count (fun k => (nI (cN (evn s) k), nI k)) 10 (nI (cN (evn s) 10)) ?_ ?_ (by omega) ?_]
  · rfl
  · intro k hk
    have c1 : ¬ 10 ≤ k := by omega
    simp (disch := omega) only [un2, X8_evenBars_b4, c_10, nI_leI, c1, if_false, Option.bind_some, X8_isEven_s h hV, cN_succ, bI_0]
    cases evn s k <;> simp [c_0, c_1, nI_add]
  · simp (disch := omega) only [un2, X8_evenBars_b4, c_10, nI_leI, Nat.le_refl, if_true]
  · rfl
theorem X8_nearPairs_s (h : M8 d s) (hV : Vd s) : X8_nearPairs (wld b d) (b + 243) = some (nI (nps s)) := by
  unfold X8_nearPairs
  rw [k_mod, Option.bind_some, wl_count (fun k => (nI (sN (nrp s) k), nI k)) 10 (nI (nps s)) ?_ ?_ (by omega) ?_]
  · rfl
  · intro k hk
    have c1 : ¬ 10 ≤ k := by omega
    simp (disch := omega) only [un2, X8_nearPairs_b4, c_10, nI_leI, c1, if_false]
    rw [wl_count (fun j => (nI (sN (nrp s) k + cN (fun j => ner s k (k + 1 + j)) j), nI (k + 1 + j))) (9 - k) (nI (sN (nrp s) (k + 1))) ?_ ?_ (by omega) ?_]
    · simp only [Option.bind_some, nI_1]
    · intro j hj
      have c2 : ¬ 10 ≤ k + 1 + j := by omega
      simp (disch := omega) only [un2, X8_nearPairs_b14, c_10, nI_leI, c2, if_false, X8_areNear_s h hV, Option.bind_some, bI_0, cN_succ]
      cases ner s k (k + 1 + j) <;> simp [Nat.add_assoc, c_0, c_1, nI_add]
    · have c2 : 10 ≤ k + 1 + (9 - k) := by omega
      simp (disch := omega) only [un2, X8_nearPairs_b14, c_10, nI_leI, c2, if_true]
      rfl
    · simp [cN, sN, c_1, nI_add]
  · simp (disch := omega) only [un2, X8_nearPairs_b4, c_10, nI_leI, Nat.le_refl, if_true]
    rfl
  · rfl
end MODA
