/-! HANDS -/
theorem cN_ab {s : Sg} (p : Nat → Bool) : ∀ n, n ≤ s 211 → cN (fun m => dab s m && p m) n = cN (fun j => p (ab s j)) (ct s n)
  | 0, _ => rfl
  | n + 1, hn => by
    have ih := cN_ab (s := s) p n (by omega)
    rw [cN_succ, ih, ct_suc]
    cases hd : dab s n with
    | false => simp
    | true =>
      rw [if_pos rfl, cN_succ, (ab_ct (by omega) hd).2]
      simp
theorem cN_mono {p q : Nat → Bool} : ∀ n, (∀ k, k < n → p k = true → q k = true) → cN p n ≤ cN q n
  | 0, _ => Nat.le_refl _
  | n + 1, h => by
    have ih := cN_mono n (fun k hk => h k (by omega))
    have h1 := h n (by omega)
    rw [cN_succ, cN_succ]
    cases hp : p n with
    | false =>
      simp only [Bool.false_eq_true, if_false]
      split <;> omega
    | true => rw [h1 hp]; simp; omega
theorem cN_pos {p : Nat → Bool} : ∀ n, cN p n ≠ 0 → ∃ k, k < n ∧ p k = true
  | 0, h => absurd rfl h
  | n + 1, h => by
    rw [cN_succ] at h
    cases hp : p n with
    | true => exact ⟨n, by omega, hp⟩
    | false =>
      rw [hp] at h
      simp at h
      obtain ⟨k, h1, h2⟩ := cN_pos n h
      exact ⟨k, by omega, h2⟩
theorem cN_cg {p q : Nat → Bool} (n : Nat) (h : ∀ k, k < n → p k = q k) : cN p n = cN q n := by
  unfold cN
  exact sN_congr n (fun k hk => by rw [h k hk])
def mxN (f : Nat → Nat) : Nat → Nat
  | 0 => 0
  | n + 1 => if mxN f n < f n then f n else mxN f n
theorem mxN_ge (f : Nat → Nat) : ∀ n k, k < n → f k ≤ mxN f n
  | 0, k, h => by omega
  | n + 1, k, h => by
    simp only [mxN]
    by_cases e : k = n
    · subst e; split <;> omega
    · have := mxN_ge f n k (by omega)
      split <;> omega
theorem mxN_le {f : Nat → Nat} {v : Nat} : ∀ n, (∀ k, k < n → f k ≤ v) → mxN f n ≤ v
  | 0, _ => Nat.zero_le _
  | n + 1, h => by
    have h1 := mxN_le n (fun k hk => h k (by omega))
    have h2 := h n (by omega)
    simp only [mxN]
    split <;> omega
/-- how many moves are being done at t -/
def wrk (s : Sg) (t : Nat) : Nat := cN (fun m => dab s m && (decide (s (181 + m) ≤ t) && decide (t < eT s m))) (s 211)
theorem wrk_le (s : Sg) (t : Nat) : wrk s t ≤ s 211 := cN_le _ _
theorem wrk_mx {s : Sg} (hV : Vd s) : mxN (fun k => wrk s (s (181 + k))) (s 211) = mxN (wrk s) 301 := by
  have h10 := hV.ln
  apply Nat.le_antisymm
  · exact mxN_le _ (fun k hk => mxN_ge (wrk s) 301 _ (by have := hV.bg (m := k) (by omega); omega))
  · refine mxN_le _ (fun t ht => ?_)
    by_cases c : wrk s t = 0
    · omega
    · obtain ⟨m, m1, m2⟩ := cN_pos _ c
      simp at m2
      have bm := hV.bg (m := m) (by omega)
      obtain ⟨x, ⟨k, k1, k2, k3, k4, k5⟩, hx⟩ := pk_least (fun x => ∃ k, k < s 211 ∧ dab s k = true ∧ s (181 + k) ≤ t ∧ t < eT s k ∧ s (181 + k) + x = 200) ⟨200 - s (181 + m), m, m1, m2.1, m2.2.1, m2.2.2, by omega⟩
      refine Nat.le_trans ?_ (mxN_ge (fun k => wrk s (s (181 + k))) _ k k1)
      refine cN_mono _ (fun j j1 j2 => ?_)
      simp at j2 ⊢
      have bj := hV.bg (m := j) (by omega)
      have : ¬ s (181 + k) < s (181 + j) := fun g => hx (200 - s (181 + j)) (by omega) ⟨j, j1, j2.1, j2.2.1, j2.2.2, by omega⟩
      exact ⟨j2.1, by omega, by omega⟩
theorem Mnum {s : Sg} {L L' : Nat} {c : Sg} (h1 : LF (cpa s) L (ct s (s 211)) c) (h2 : ∀ x, x < L → ¬ Cpl (cpa s) x (ct s (s 211)) 0 z0) (h3 : Cpl (cpa s) L' (ct s (s 211)) 0 z0) (h4 : ∀ x, x < L' → ¬ Cpl (cpa s) x (ct s (s 211)) 0 z0) : L = L' := by
  have h5 : Cpl (cpa s) L (ct s (s 211)) 0 z0 := ⟨c, h1.1, fun k hk => absurd hk (by omega)⟩
  rcases Nat.lt_trichotomy L L' with g | g | g
  · exact absurd h5 (h4 L g)
  · exact g
  · exact absurd h3 (h2 L' g)
section HANDSQ
variable {b : Nat} {d : Da} {s : Sg}
theorem X1_doableCount_s {D : Da} (hV : Vd s) (hG : Gw D s) : X1_doableCount (wld b D) (b + 91) = some (nI (ct s (s 211))) := by
  have h10 := hV.ln
  unfold X1_doableCount
  rw [k_crw, Option.bind_some, wl_count (fun k => (nI (ct s k), nI k)) (s 211) (nI (ct s (s 211))) ?_ ?_ (by omega) ?_]
  · rfl
  · intro k hk
    have c1 : ¬ s 211 ≤ k := by omega
    simp (disch := omega) only [un2, X1_doableCount_b4, f_crc, hG.1, Option.bind_some, nI_leI, c1, if_false, f_crw, Nat.reduceAdd, lZ_f isA_c.2.2.2.2.1, (hG.2 k hk).1, bI_0, nI_1, ct_suc]
    cases dab s k <;> simp
  · simp (disch := omega) only [un2, X1_doableCount_b4, f_crc, hG.1, Option.bind_some, nI_leI, Nat.le_refl, if_true]
  · rfl
theorem X1_doneAt_s {D : Da} {t : Nat} (hR : StR D 1 s) (hV : Vd s) (hG : Gw D s) (ht : t ≤ 300) : X1_doneAt (wld b D) (b + 91) (b + 1) (nI t) = some (nI (wrk s t)) := by
  have h10 := hV.ln
  unfold X1_doneAt
  rw [k_crw, Option.bind_some, wl_count (fun k => (nI (cN (fun m => dab s m && (decide (s (181 + m) ≤ t) && decide (t < eT s m))) k), nI k)) (s 211) (nI (wrk s t)) ?_ ?_ (by omega) ?_]
  · rfl
  · intro k hk
    have c1 : ¬ s 211 ≤ k := by omega
    have b1 := hV.bg (m := k) (by omega)
    have b2 := eT_le hV hk
    simp (disch := omega) only [un2, X1_doneAt_b5, f_crc, hG.1, Option.bind_some, nI_leI, nI_ltI, c1, if_false, f_crw, Nat.reduceAdd, lZ_f isA_c.2.2.2.2.1, (hG.2 k hk).1, bI_0, nI_1, cN_succ, f_movs isS_1, f_mov isS_1, f_mv isS_1, hR.m1 hk, lA_f isA_c.2.2.2.2.2.1, (hG.2 k hk).2.1]
    cases hd : dab s k with
    | false => simp
    | true =>
      by_cases g1 : t < s (181 + k)
      · have g2 : ¬ s (181 + k) ≤ t := by omega
        simp [g1, g2]
      · have g2 : s (181 + k) ≤ t := by omega
        by_cases g3 : eT s k ≤ t
        · have g4 : ¬ t < eT s k := by omega
          simp [g1, g3, g4]
        · have g4 : t < eT s k := by omega
          simp [g1, g2, g3, g4]
  · simp (disch := omega) only [un2, X1_doneAt_b5, f_crc, hG.1, Option.bind_some, nI_leI, Nat.le_refl, if_true]
    rfl
  · rfl
theorem iMax_n {a c : Nat} (ha : a < 2 ^ 31) (hc : c < 2 ^ 31) : iMax (nI a) (nI c) = nI (if a < c then c else a) := by
  unfold iMax
  by_cases g : a < c
  · rw [if_pos g, if_pos ((nI_ltI ha hc).mpr g)]
  · rw [if_neg g, if_neg (fun h => g ((nI_ltI ha hc).mp h))]
theorem X1_mostAtOnce_s {D : Da} (hR : StR D 1 s) (hV : Vd s) (hG : Gw D s) : X1_mostAtOnce (wld b D) (b + 91) (b + 1) = some (nI (mxN (wrk s) 301)) := by
  have h10 := hV.ln
  unfold X1_mostAtOnce
  rw [k_crw, Option.bind_some, wl_count (fun k => (nI (mxN (fun k => wrk s (s (181 + k))) k), nI k)) (s 211) (nI (mxN (wrk s) 301)) ?_ ?_ (by omega) ?_]
  · rfl
  · intro k hk
    have c1 : ¬ s 211 ≤ k := by omega
    have b1 := hV.bg (m := k) (by omega)
    have b2 := wrk_le s (s (181 + k))
    have b3 := mxN_le (f := fun k => wrk s (s (181 + k))) (v := 10) k (fun j _ => by have := wrk_le s (s (181 + j)); omega)
    simp (disch := omega) only [un2, X1_mostAtOnce_b4, f_crc, hG.1, Option.bind_some, nI_leI, c1, if_false, f_movs isS_1, f_mov isS_1, f_mv isS_1, hR.m1 hk, X1_doneAt_s hR hV hG, iMax_n, nI_1, mxN]
  · simp (disch := omega) only [un2, X1_mostAtOnce_b4, f_crc, hG.1, Option.bind_some, nI_leI, Nat.le_refl, if_true]
    rw [wrk_mx hV]
  · rfl
theorem X8_mostAtOnce_s {D : Da} (hM : M8 D s) (hV : Vd s) (hB : Mb D s) : X8_mostAtOnce (wld b D) (b + 243) = some (nI (mxN (wrk s) 301)) := by
  have h10 := hV.ln
  have h11 := ct_le hV
  unfold X8_mostAtOnce
  rw [k_mod, Option.bind_some, wl_count (fun t => (nI (mxN (wrk s) t), nI t)) 301 (nI (mxN (wrk s) 301)) ?_ ?_ (by omega) ?_]
  · rfl
  · intro t ht
    have c1 : ¬ 300 < t := by omega
    have b2 := wrk_le s t
    have b3 := mxN_le (f := wrk s) (v := 10) t (fun j _ => by have := wrk_le s j; omega)
    simp (disch := omega) only [un2, X8_mostAtOnce_b4, c_300, nI_ltI, c1, if_false]
    rw [wl_count (fun j => (nI (cN (fun j => decide (s (181 + ab s j) ≤ t) && decide (t < eT s (ab s j))) j), nI j)) (ct s (s 211)) (nI (wrk s t)) ?_ ?_ (by omega) ?_]
    · simp (disch := omega) only [Option.bind_some, nI_leI, mxN, nI_1]
      by_cases g : mxN (wrk s) t < wrk s t
      · rw [if_neg (by omega), if_pos g]
      · rw [if_pos (by omega), if_neg g]
    · intro j hj
      have c2 : ¬ ct s (s 211) ≤ j := by omega
      have a1 := (ab_ok hj).1
      have b4 := hV.bg (m := ab s j) (by omega)
      have b5 := eT_le hV a1
      simp (disch := omega) only [un2, X8_mostAtOnce_b16, f_mdc, hB.1, Option.bind_some, nI_leI, nI_ltI, c2, if_false, X8_begin_s hM hV hB hj, m_en, lA_f isA_m.2.2.2.2.2.2.2.1, (hB.2 j hj).2, nI_1, Int32.add_zero, cN_succ]
      by_cases g1 : t < s (181 + ab s j)
      · have g2 : ¬ s (181 + ab s j) ≤ t := by omega
        simp [g1, g2]
      · have g2 : s (181 + ab s j) ≤ t := by omega
        by_cases g3 : eT s (ab s j) ≤ t
        · have g4 : ¬ t < eT s (ab s j) := by omega
          simp [g1, g3, g4]
        · have g4 : t < eT s (ab s j) := by omega
          simp [g1, g2, g3, g4]
    · simp (disch := omega) only [un2, X8_mostAtOnce_b16, f_mdc, hB.1, Option.bind_some, nI_leI, Nat.le_refl, if_true]
      unfold wrk
      rw [cN_ab _ _ (Nat.le_refl _)]
    · rfl
  · simp (disch := omega) only [un2, X8_mostAtOnce_b4, c_300, nI_ltI, show 300 < 301 by omega, if_true]
  · rfl
theorem q_hands (hJ : Iv d s) (x1 : Int32) : ∃ r d1 d2, X7_hands (wld b d) b x1 = some (r, wld b d1) ∧ X8_hands (wld b d1) (b + 243) x1 = some (r, wld b d2) ∧ Iv d2 s := by
  obtain ⟨hV, hR, hM, -⟩ := id hJ
  unfold X7_hands X8_hands
  simp only [k_top, k_mod, Option.bind_some, X7_within_s, X8_in_s]
  by_cases c1 : 0 ≤ x1 ∧ x1 ≤ 2
  · obtain ⟨D, L, c, e1, e2, e3⟩ := X1_gather_s (b := b) hR hV
    obtain ⟨D', L', f1, f2, f3, f4, f5, f6⟩ := X8_layHands_s (b := b) (hM.cs e2) hV
    have hj := hJ.q e2 f2
    have hRD := hR.cs hV isS_1 e2
    have eL : L = L' := Mnum e3.2.1 e3.2.2.2 f5 f6
    subst eL
    simp only [ifb_t c1, t_crw, t_stg, t_flt, Option.bind_some, e1, f1, un2]
    by_cases x0 : x1 = 0
    · refine ⟨nI L, D, D', ?_, ?_, hj⟩
      · rw [if_pos x0, f_crc (by omega), e3.1.2.1]
        rfl
      · rw [f1, Option.bind_some]
        show (if x1 = 0 then some (nI L, wld b D') else (if x1 = (1 : Int32) then ((gI (wld b D') (b + 243) 8 9).bind fun v8 => some (v8, wld b D')) else ((X8_mostAtOnce (wld b D') (b + 243)).bind fun v7 => some (v7, wld b D')))) = _
        rw [if_pos x0]
    · by_cases x1' : x1 = 1
      · refine ⟨nI (ct s (s 211)), D, D', ?_, ?_, hj⟩
        · rw [if_neg x0, if_pos x1', X1_doableCount_s hV e3.1.1]
          rfl
        · rw [f1, Option.bind_some]
          show (if x1 = 0 then some (nI L, wld b D') else (if x1 = (1 : Int32) then ((gI (wld b D') (b + 243) 8 9).bind fun v8 => some (v8, wld b D')) else ((X8_mostAtOnce (wld b D') (b + 243)).bind fun v7 => some (v7, wld b D')))) = _
          rw [if_neg x0, if_pos x1', f_mdc (by omega), f3.1]
          rfl
      · refine ⟨nI (mxN (wrk s) 301), D, D', ?_, ?_, hj⟩
        · rw [if_neg x0, if_neg x1', X1_mostAtOnce_s hRD hV e3.1.1]
          rfl
        · rw [f1, Option.bind_some]
          show (if x1 = 0 then some (nI L, wld b D') else (if x1 = (1 : Int32) then ((gI (wld b D') (b + 243) 8 9).bind fun v8 => some (v8, wld b D')) else ((X8_mostAtOnce (wld b D') (b + 243)).bind fun v7 => some (v7, wld b D')))) = _
          rw [if_neg x0, if_neg x1', X8_mostAtOnce_s hj.2.2.1 hV f3]
          rfl
  · exact ⟨-2, d, d, by rw [ifb_f c1], by rw [ifb_f c1], hJ⟩
end HANDSQ
