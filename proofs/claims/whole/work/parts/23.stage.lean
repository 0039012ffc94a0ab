section PILE
variable {b : Nat} {d : Da} {p q i m : Nat} {s : Sg}
theorem X5_total_s (hp : isS p) (hR : StR d p s) (hV : Vd s) (hq : q < 10) (hi : i < 2) : X5_total (wld b d) (b + lPil p q i) = some (nI (tog s q i)) := by
  have h6 := hV.mn hq hi
  unfold X5_total
  rw [k_pil hp hq hi, Option.bind_some, wl_count (fun k => (nI (sN (fun k => s (50 + 12 * q + 6 * i + k)) k), nI k)) (s (30 + 10 * i + q)) (nI (tog s q i)) ?_ ?_ (by omega) ?_]
  · rfl
  · intro k hk
    have c1 : ¬ s (30 + 10 * i + q) ≤ k := by omega
    simp (disch := omega) only [un2, X5_total_b4, f_siz hp hq hi, hR.pi hq hi, Option.bind_some, nI_leI, c1, if_false, f_wei hp hq hi, lA_f (isA_wei hp hq hi), hR.we hq hi, nI_add, nI_1, sN]
  · simp (disch := omega) only [un2, X5_total_b4, f_siz hp hq hi, hR.pi hq hi, Option.bind_some, nI_leI, Nat.le_refl, if_true]
    rfl
  · rfl
theorem X5_weightOf_s {k : Nat} (hp : isS p) (hR : StR d p s) (hV : Vd s) (hq : q < 10) (hi : i < 2) (hk : k < 6) : X5_weightOf (wld b d) (b + lPil p q i) (nI k) = some (if k < s (30 + 10 * i + q) then nI (s (50 + 12 * q + 6 * i + k)) else -6) := by
  have h6 := hV.mn hq hi
  unfold X5_weightOf
  simp (disch := omega) only [k_pil hp hq hi, f_siz hp hq hi, hR.pi hq hi, Option.bind_some, nI_leI]
  by_cases c : k < s (30 + 10 * i + q)
  · have c1 : ¬ s (30 + 10 * i + q) ≤ k := by omega
    simp (disch := omega) only [c1, c, if_false, if_true, f_wei hp hq hi, lA_f (isA_wei hp hq hi), hR.we hq hi, Option.bind_some]
  · have c1 : s (30 + 10 * i + q) ≤ k := by omega
    simp only [c1, c, if_false, if_true]
theorem X0_pileOf_s (hp : isS p) (hq : q < 10) (hi : i < 2) : X0_pileOf (wld b d) (b + lBar p q) (nI i) = some (b + lPil p q i) := by
  unfold X0_pileOf
  simp only [k_bar hp hq, Option.bind_some, f_pcs hp hq, f_brk hp hq]
  match i, hi with
  | 0, _ => rfl
  | 1, _ => rfl
theorem X0_isEven_s (hp : isS p) (hR : StR d p s) (hV : Vd s) (hq : q < 10) : X0_isEven (wld b d) (b + lBar p q) (nI (s 170)) = some (bI (evn s q)) := by
  have t0 := tog_le hV hq (i := 0) (by omega)
  have t1 := tog_le hV hq (i := 1) (by omega)
  have h3 := hV.sw
  unfold X0_isEven
  simp only [k_bar hp hq, Option.bind_some, f_pcs hp hq, f_brk hp hq, X5_total_s hp hR hV hq (i := 0) (by omega), X5_total_s hp hR hV hq (i := 1) (by omega)]
  simp (disch := omega) only [iAbs_lt]
  unfold evn bI
  by_cases c : tog s q 0 ≤ tog s q 1 + s 170 ∧ tog s q 1 ≤ tog s q 0 + s 170
  · rw [if_neg (fun h => h c), if_pos (by simpa using c)]
  · rw [if_pos c, if_neg (by simpa using c)]
theorem X6_movesOf_s (hp : isS p) (hR : StR d p s) (hV : Vd s) (hq : q < 10) : X6_movesOf (wld b d) (b + p) (nI q) = some (nI (mvs s q)) := by
  have h10 := hV.ln
  unfold X6_movesOf
  rw [k_stage hp, Option.bind_some, wl_count (fun k => (nI (cN (fun m => decide (s (171 + m) = q)) k), nI k)) (s 211) (nI (mvs s q)) ?_ ?_ (by omega) ?_]
  · rfl
  · intro k hk
    have c1 : ¬ s 211 ≤ k := by omega
    have c2 := hV.of (m := k) (by omega)
    simp (disch := omega) only [un2, X6_movesOf_b4, f_cnt hp, hR.cn, Option.bind_some, nI_leI, c1, if_false, f_movs hp, f_mov hp, f_mv hp, hR.m0, nI_eq, cN_succ]
    by_cases c : s (171 + k) = q
    · simp only [c, if_true, decide_true, nI_1]
    · simp only [c, if_false, decide_false, nI_1]
      rfl
  · simp (disch := omega) only [un2, X6_movesOf_b4, f_cnt hp, hR.cn, Option.bind_some, nI_leI, Nat.le_refl, if_true]
    rfl
  · rfl
theorem oI_some (m : Nat) : oI (some m) = nI m := rfl
theorem oI_neg (r : Option Nat) (h : ∀ m, r = some m → m < 100) : oI r < 0 ↔ r = none := by
  cases r with
  | none => exact ⟨fun _ => rfl, fun _ => by decide⟩
  | some m =>
    have := h m rfl
    exact ⟨fun q => absurd q (nI_pos (by omega)), fun q => by cases q⟩
theorem X6_firstMoveFrom_s {t : Nat} (hp : isS p) (hR : StR d p s) (hV : Vd s) (hq : q < 10) (ht : t < 1000) : X6_firstMoveFrom (wld b d) (b + p) (nI q) (nI t) = some (oI (fm s q t (s 211))) := by
  have h10 := hV.ln
  unfold X6_firstMoveFrom
  rw [k_stage hp, Option.bind_some, wl_count (fun k => (oI (fm s q t k), nI k)) (s 211) (oI (fm s q t (s 211))) ?_ ?_ (by omega) ?_]
  · rfl
  · intro k hk
    have c1 : ¬ s 211 ≤ k := by omega
    have c2 := hV.of (m := k) (by omega)
    have c3 := hV.bg (m := k) (by omega)
    simp (disch := omega) only [un2, X6_firstMoveFrom_b5, f_cnt hp, hR.cn, Option.bind_some, nI_leI, c1, if_false, f_movs hp, f_mov hp, f_mv hp, hR.m0, hR.m1, nI_eq, nI_ltI]
    by_cases c : s (171 + k) = q
    · by_cases c4 : s (181 + k) < t
      · have c5 : ¬ (s (171 + k) = q ∧ t ≤ s (181 + k)) := by omega
        simp only [c, c4, if_true, X6_firstMoveFrom_L46, X6_firstMoveFrom_L47, fm, nI_1]
        rw [if_neg (by omega)]
      · have c5 : s (171 + k) = q ∧ t ≤ s (181 + k) := by omega
        simp only [c, c4, if_true, if_false, X6_firstMoveFrom_L47]
        rw [if_neg (show ¬ (1 : Int32) = 0 by decide), show fm s q t (k + 1) = (match fm s q t k with | none => some k | some m => if s (181 + k) < s (181 + m) then some k else some m) from if_pos c5]
        cases hf : fm s q t k with
        | none =>
          rw [if_pos (show oI none < 0 by decide), nI_1]
          rfl
        | some r =>
          obtain ⟨r1, -⟩ := fm_some k r hf
          have c6 := hV.bg (m := r) (by omega)
          rw [if_neg (show ¬ oI (some r) < 0 from nI_pos (by omega))]
          simp (disch := omega) only [oI_some, f_movs hp, f_mov hp, f_mv hp, hR.m1, Option.bind_some, nI_leI, nI_1]
          by_cases c7 : s (181 + r) ≤ s (181 + k)
          · rw [if_pos c7, if_neg (by omega)]
            rfl
          · rw [if_neg c7, if_pos (by omega)]
            rfl
    · have c5 : ¬ (s (171 + k) = q ∧ t ≤ s (181 + k)) := by omega
      simp only [c, if_false, X6_firstMoveFrom_L46, X6_firstMoveFrom_L47, fm, false_and, if_true, nI_1]
  · simp (disch := omega) only [un2, X6_firstMoveFrom_b5, f_cnt hp, hR.cn, Option.bind_some, nI_leI, Nat.le_refl, if_true]
  · rfl
theorem X6_moveAt_s {t : Nat} (hp : isS p) (hR : StR d p s) (hV : Vd s) (hq : q < 10) (ht : t ≤ 200) : ∃ r : Option Nat, X6_moveAt (wld b d) (b + p) (nI q) (nI t) = some (oI r) ∧ (∀ m, r = some m → m < s 211 ∧ s (171 + m) = q ∧ s (181 + m) = t) ∧ (r = none → ∀ m, m < s 211 → ¬ (s (171 + m) = q ∧ s (181 + m) = t)) := by
  have h10 := hV.ln
  unfold X6_moveAt
  rw [k_stage hp, Option.bind_some, X6_firstMoveFrom_s hp hR hV hq (by omega), Option.bind_some]
  cases hf : fm s q t (s 211) with
  | none =>
    refine ⟨none, ?_, fun m h => (by cases h), fun _ m hm h => fm_none _ hf m hm ⟨h.1, by omega⟩⟩
    rw [if_pos (show oI none < 0 by decide)]
    rfl
  | some r =>
    obtain ⟨r1, r2, r3, r4⟩ := fm_some _ r hf
    have c6 := hV.bg (m := r) (by omega)
    rw [if_neg (show ¬ oI (some r) < 0 from nI_pos (by omega))]
    simp (disch := omega) only [oI_some, f_movs hp, f_mov hp, f_mv hp, hR.m1, Option.bind_some, nI_eq]
    by_cases c7 : s (181 + r) = t
    · rw [if_pos c7]
      exact ⟨some r, rfl, fun m h => by cases h; exact ⟨r1, r2, c7⟩, fun h => by cases h⟩
    · rw [if_neg c7]
      refine ⟨none, rfl, fun m h => (by cases h), fun _ m hm h => ?_⟩
      have := r4 m hm h.1 (by omega)
      omega
theorem X6_isDoable_s (hp : isS p) (hR : StR d p s) (hV : Vd s) (hm : m < s 211) : X6_isDoable (wld b d) (b + p) (nI m) = some (bI (evn s (s (171 + m)))) := by
  have h10 := hV.ln
  have h1 := hV.of (m := m) (by omega)
  unfold X6_isDoable
  simp (disch := omega) only [k_stage hp, Option.bind_some, f_bars hp, f_movs hp, f_mov hp, f_mv hp, hR.m0, f_bar hp, f_sway hp, hR.sw, X0_isEven_s hp hR hV, ckB_b]
theorem X6_areNear_s {r : Nat} (hp : isS p) (hR : StR d p s) (hV : Vd s) (hq : q < 10) (hr : r < 10) : X6_areNear (wld b d) (b + p) (nI q) (nI r) = some (bI (ner s q r)) := by
  have h1 := hV.re hq
  have h2 := hV.re hr
  unfold X6_areNear
  simp (disch := omega) only [k_stage hp, Option.bind_some, f_bars hp, f_bar hp hq, f_bar hp hr, f_set hp hq, f_set hp hr, c_2, lA_f (isA_set hp hq) (show 2 < 3 by decide), lA_f (isA_set hp hr) (show 2 < 3 by decide), hR.s2 hq, hR.s2 hr, nI_add, iAbs_lt]
  unfold ner bI
  by_cases c : q ≤ r + (s (20 + q) + s (20 + r)) ∧ r ≤ q + (s (20 + q) + s (20 + r))
  · rw [if_neg (fun h => h c), if_pos (by simpa using c)]
  · rw [if_pos c, if_neg (by simpa using c)]
theorem X6_evenBars_s (hp : isS p) (hR : StR d p s) (hV : Vd s) : X6_evenBars (wld b d) (b + p) = some (nI (cN (evn s) 10)) := by
  unfold X6_evenBars
  rw [k_stage hp, Option.bind_some, wl_count (fun k => (nI (cN (evn s) k), nI k)) 10 (nI (cN (evn s) 10)) ?_ ?_ (by omega) ?_]
  · rfl
  · intro k hk
    have c1 : ¬ 10 ≤ k := by omega
    simp (disch := omega) only [un2, X6_evenBars_b4, c_10, nI_leI, c1, if_false, f_bars hp, f_bar hp, f_sway hp, hR.sw, Option.bind_some, X0_isEven_s hp hR hV, cN_succ, bI_0, nI_1]
    cases evn s k <;> simp
  · simp (disch := omega) only [un2, X6_evenBars_b4, c_10, nI_leI, Nat.le_refl, if_true]
  · rfl
def nrp (s : Sg) (q : Nat) : Nat := cN (fun j => ner s q (q + 1 + j)) (9 - q)
def nps (s : Sg) : Nat := sN (nrp s) 10
theorem nps_le (s : Sg) : nps s ≤ 100 := by
  have := sN_le (f := nrp s) (c := 10) 10 (fun k _ => by have := cN_le (fun j => ner s k (k + 1 + j)) (9 - k); unfold nrp; omega)
  unfold nps
  omega
theorem X6_nearPairs_s (hp : isS p) (hR : StR d p s) (hV : Vd s) : X6_nearPairs (wld b d) (b + p) = some (nI (nps s)) := by
  unfold X6_nearPairs
  rw [k_stage hp, Option.bind_some, wl_count (fun k => (nI (sN (nrp s) k), nI k)) 10 (nI (nps s)) ?_ ?_ (by omega) ?_]
  · rfl
  · intro k hk
    have c1 : ¬ 10 ≤ k := by omega
    simp (disch := omega) only [un2, X6_nearPairs_b4, c_10, nI_leI, c1, if_false]
    rw [wl_count (fun j => (nI (sN (nrp s) k + cN (fun j => ner s k (k + 1 + j)) j), nI (k + 1 + j))) (9 - k) (nI (sN (nrp s) (k + 1))) ?_ ?_ (by omega) ?_]
    · simp only [Option.bind_some, nI_1]
    · intro j hj
      have c2 : ¬ 10 ≤ k + 1 + j := by omega
      simp (disch := omega) only [un2, X6_nearPairs_b14, c_10, nI_leI, c2, if_false, X6_areNear_s hp hR hV, Option.bind_some, bI_0, nI_1, cN_succ]
      cases ner s k (k + 1 + j) <;> simp [Nat.add_assoc]
    · have c2 : 10 ≤ k + 1 + (9 - k) := by omega
      simp (disch := omega) only [un2, X6_nearPairs_b14, c_10, nI_leI, c2, if_true]
      rfl
    · simp [cN, sN, c_1, nI_add]
  · simp (disch := omega) only [un2, X6_nearPairs_b4, c_10, nI_leI, Nat.le_refl, if_true]
    rfl
  · rfl
end PILE
