/-! THE LAW, CALL BY CALL -/
section LAW
variable {b : Nat} {d : Da} {s : Sg} {L : Nat} {xs : Nat → Int32}
theorem ldX_n {i : Nat} (h : i < L) (hL : L ≤ 2560) : ldX L xs (nI i) = some (xs i) := by
  unfold ldX
  rw [nI_clamp (by omega), if_pos ⟨nI_pos' (by omega), h⟩]
theorem law_step (hJ : Iv d s) {i : Nat} (hL : L ≤ 2560) (hi : i ≤ 2600) (a : Nat) : L_law_b18 L xs a b (b + 243) (wld b d) (nI i) = some (.inr (wld b d)) ∨ ∃ d2 s2, Iv d2 s2 ∧ L_law_b18 L xs a b (b + 243) (wld b d) (nI i) = some (.inl (wld b d2, nI (i + 5))) ∧ i + 5 ≤ L := by
  unfold L_law_b18
  by_cases c : L < 5 + i
  · left
    rw [if_pos (show (Int32.ofNat L) - (5 : Int32) < nI i from (nI_slt (a := L) (b := 5) (by omega) (by omega) (by omega)).mpr c)]
  · right
    rw [if_neg (show ¬ (Int32.ofNat L) - (5 : Int32) < nI i from fun g => c ((nI_slt (a := L) (b := 5) (by omega) (by omega) (by omega)).mp g))]
    have e0 : ldX L xs (nI i) = some (xs i) := ldX_n (by omega) hL
    have e1 : ldX L xs (nI i + (1 : Int32)) = some (xs (i + 1)) := by rw [c_1, nI_add]; exact ldX_n (by omega) hL
    have e2 : ldX L xs (nI i + (2 : Int32)) = some (xs (i + 2)) := by rw [c_2, nI_add]; exact ldX_n (by omega) hL
    have e3 : ldX L xs (nI i + (3 : Int32)) = some (xs (i + 3)) := by rw [c_3, nI_add]; exact ldX_n (by omega) hL
    have e4 : ldX L xs (nI i + (4 : Int32)) = some (xs (i + 4)) := by rw [c_4, nI_add]; exact ldX_n (by omega) hL
    have e5 : nI i + 5 = nI (i + 5) := by rw [c_5, nI_add]
    simp only [e0, e1, e2, e3, e4, e5, Option.bind_some]
    generalize xs i &&& (31 : Int32) = y
    have fin : ∀ (d2 : Da) (s2 : Sg) (o : Option ((Wo × Int32) ⊕ Wo)), Iv d2 s2 → o = some (.inl (wld b d2, nI (i + 5))) → ∃ d2 s2, Iv d2 s2 ∧ o = some (.inl (wld b d2, nI (i + 5))) ∧ i + 5 ≤ L := fun d2 s2 o h1 h2 => ⟨d2, s2, h1, h2, by omega⟩
    by_cases y0 : y = 0
    · rw [if_pos y0]
      obtain ⟨r, d1, d2, s2, h1, h2, h3⟩ := q_set (b := b) hJ (xs (i + 1)) (xs (i + 2)) (xs (i + 3))
      refine fin d2 s2 _ h3 ?_
      rw [h1, Option.bind_some]
      show (X8_set (wld b d1) (b + 243) (xs (i + 1)) (xs (i + 2)) (xs (i + 3))).bind _ = _
      rw [h2, Option.bind_some]
      show (if r = r then some (Sum.inl (wld b d2, nI (i + 5))) else none) = _
      rw [if_pos rfl]
    rw [if_neg y0]
    by_cases y1 : y = 1
    · rw [if_pos y1]
      obtain ⟨r, d1, d2, s2, h1, h2, h3⟩ := q_load (b := b) hJ (xs (i + 1)) (xs (i + 2)) (xs (i + 3))
      refine fin d2 s2 _ h3 ?_
      rw [h1, Option.bind_some]
      show (X8_load (wld b d1) (b + 243) (xs (i + 1)) (xs (i + 2)) (xs (i + 3))).bind _ = _
      rw [h2, Option.bind_some]
      show (if r = r then some (Sum.inl (wld b d2, nI (i + 5))) else none) = _
      rw [if_pos rfl]
    rw [if_neg y1]
    by_cases y2 : y = 2
    · rw [if_pos y2]
      obtain ⟨r, d1, d2, s2, h1, h2, h3⟩ := q_take (b := b) hJ (xs (i + 1)) (xs (i + 2)) (xs (i + 3))
      refine fin d2 s2 _ h3 ?_
      rw [h1, Option.bind_some]
      show (X8_take (wld b d1) (b + 243) (xs (i + 1)) (xs (i + 2)) (xs (i + 3))).bind _ = _
      rw [h2, Option.bind_some]
      show (if r = r then some (Sum.inl (wld b d2, nI (i + 5))) else none) = _
      rw [if_pos rfl]
    rw [if_neg y2]
    by_cases y3 : y = 3
    · rw [if_pos y3]
      obtain ⟨r, h1, h2⟩ := q_bar (b := b) hJ (xs (i + 1)) (xs (i + 2))
      refine fin d s _ hJ ?_
      rw [h1, Option.bind_some, h2, Option.bind_some, if_pos rfl]
    rw [if_neg y3]
    by_cases y4 : y = 4
    · rw [if_pos y4]
      obtain ⟨r, d1, d2, h1, h2, h3⟩ := q_loading (b := b) hJ (xs (i + 1)) (xs (i + 2))
      refine fin d2 s _ h3 ?_
      rw [h1, Option.bind_some]
      show (X8_loading (wld b d1) (b + 243) (xs (i + 1)) (xs (i + 2))).bind _ = _
      rw [h2, Option.bind_some]
      show (if r = r then some (Sum.inl (wld b d2, nI (i + 5))) else none) = _
      rw [if_pos rfl]
    rw [if_neg y4]
    by_cases y5 : y = 5
    · rw [if_pos y5]
      obtain ⟨r, d1, d2, h1, h2, h3⟩ := q_loadings (b := b) hJ (xs (i + 1))
      refine fin d2 s _ h3 ?_
      rw [h1, Option.bind_some]
      show (X8_loadings (wld b d1) (b + 243) (xs (i + 1))).bind _ = _
      rw [h2, Option.bind_some]
      show (if r = r then some (Sum.inl (wld b d2, nI (i + 5))) else none) = _
      rw [if_pos rfl]
    rw [if_neg y5]
    by_cases y6 : y = 6
    · rw [if_pos y6]
      obtain ⟨r, d1, d2, s2, h1, h2, h3⟩ := q_move (b := b) hJ (xs (i + 1)) (xs (i + 2)) (xs (i + 3)) (xs (i + 4))
      refine fin d2 s2 _ h3 ?_
      rw [h1, Option.bind_some]
      show (X8_move (wld b d1) (b + 243) (xs (i + 1)) (xs (i + 2)) (xs (i + 3)) (xs (i + 4))).bind _ = _
      rw [h2, Option.bind_some]
      show (if r = r then some (Sum.inl (wld b d2, nI (i + 5))) else none) = _
      rw [if_pos rfl]
    rw [if_neg y6]
    by_cases y7 : y = 7
    · rw [if_pos y7]
      obtain ⟨r, d1, d2, s2, h1, h2, h3⟩ := q_drop (b := b) hJ (xs (i + 1))
      refine fin d2 s2 _ h3 ?_
      rw [h1, Option.bind_some]
      show (X8_drop (wld b d1) (b + 243) (xs (i + 1))).bind _ = _
      rw [h2, Option.bind_some]
      show (if r = r then some (Sum.inl (wld b d2, nI (i + 5))) else none) = _
      rw [if_pos rfl]
    rw [if_neg y7]
    by_cases y8 : y = 8
    · rw [if_pos y8]
      obtain ⟨r, d1, d2, s2, h1, h2, h3⟩ := q_shift (b := b) hJ (xs (i + 1)) (xs (i + 2))
      refine fin d2 s2 _ h3 ?_
      rw [h1, Option.bind_some]
      show (X8_shift (wld b d1) (b + 243) (xs (i + 1)) (xs (i + 2))).bind _ = _
      rw [h2, Option.bind_some]
      show (if r = r then some (Sum.inl (wld b d2, nI (i + 5))) else none) = _
      rw [if_pos rfl]
    rw [if_neg y8]
    by_cases y9 : y = 9
    · rw [if_pos y9]
      obtain ⟨r, d1, d2, h1, h2, h3⟩ := q_told (b := b) hJ (xs (i + 1)) (xs (i + 2))
      refine fin d2 s _ h3 ?_
      rw [h1, Option.bind_some]
      show (X8_told (wld b d1) (b + 243) (xs (i + 1)) (xs (i + 2))).bind _ = _
      rw [h2, Option.bind_some]
      show (if r = r then some (Sum.inl (wld b d2, nI (i + 5))) else none) = _
      rw [if_pos rfl]
    rw [if_neg y9]
    by_cases y10 : y = 10
    · rw [if_pos y10]
      obtain ⟨r, d1, d2, h1, h2, h3⟩ := q_height (b := b) hJ (xs (i + 1)) (xs (i + 2))
      refine fin d2 s _ h3 ?_
      rw [h1, Option.bind_some]
      show (X8_height (wld b d1) (b + 243) (xs (i + 1)) (xs (i + 2))).bind _ = _
      rw [h2, Option.bind_some]
      show (if r = r then some (Sum.inl (wld b d2, nI (i + 5))) else none) = _
      rw [if_pos rfl]
    rw [if_neg y10]
    by_cases y11 : y = 11
    · rw [if_pos y11]
      obtain ⟨r, d1, d2, h1, h2, h3⟩ := q_strike (b := b) hJ (xs (i + 1)) (xs (i + 2)) (xs (i + 3))
      refine fin d2 s _ h3 ?_
      rw [h1, Option.bind_some]
      show (X8_strike (wld b d1) (b + 243) (xs (i + 1)) (xs (i + 2)) (xs (i + 3))).bind _ = _
      rw [h2, Option.bind_some]
      show (if r = r then some (Sum.inl (wld b d2, nI (i + 5))) else none) = _
      rw [if_pos rfl]
    rw [if_neg y11]
    by_cases y12 : y = 12
    · rw [if_pos y12]
      obtain ⟨r, d1, d2, h1, h2, h3⟩ := q_clash (b := b) hJ (xs (i + 1)) (xs (i + 2))
      refine fin d2 s _ h3 ?_
      rw [h1, Option.bind_some]
      show (X8_clash (wld b d1) (b + 243) (xs (i + 1)) (xs (i + 2))).bind _ = _
      rw [h2, Option.bind_some]
      show (if r = r then some (Sum.inl (wld b d2, nI (i + 5))) else none) = _
      rw [if_pos rfl]
    rw [if_neg y12]
    by_cases y13 : y = 13
    · rw [if_pos y13]
      obtain ⟨r, d1, d2, h1, h2, h3⟩ := q_often (b := b) hJ (xs (i + 1)) (xs (i + 2))
      refine fin d2 s _ h3 ?_
      rw [h1, Option.bind_some]
      show (X8_often (wld b d1) (b + 243) (xs (i + 1)) (xs (i + 2))).bind _ = _
      rw [h2, Option.bind_some]
      show (if r = r then some (Sum.inl (wld b d2, nI (i + 5))) else none) = _
      rw [if_pos rfl]
    rw [if_neg y13]
    by_cases y14 : y = 14
    · rw [if_pos y14]
      obtain ⟨r, d1, d2, h1, h2, h3⟩ := q_hands (b := b) hJ (xs (i + 1))
      refine fin d2 s _ h3 ?_
      rw [h1, Option.bind_some]
      show (X8_hands (wld b d1) (b + 243) (xs (i + 1))).bind _ = _
      rw [h2, Option.bind_some]
      show (if r = r then some (Sum.inl (wld b d2, nI (i + 5))) else none) = _
      rw [if_pos rfl]
    rw [if_neg y14]
    by_cases y15 : y = 15
    · rw [if_pos y15]
      obtain ⟨r, d1, d2, h1, h2, h3⟩ := q_crew (b := b) hJ (xs (i + 1)) (xs (i + 2))
      refine fin d2 s _ h3 ?_
      rw [h1, Option.bind_some]
      show (X8_crew (wld b d1) (b + 243) (xs (i + 1)) (xs (i + 2))).bind _ = _
      rw [h2, Option.bind_some]
      show (if r = r then some (Sum.inl (wld b d2, nI (i + 5))) else none) = _
      rw [if_pos rfl]
    rw [if_neg y15]
    by_cases y16 : y = 16
    · rw [if_pos y16]
      obtain ⟨r, d1, d2, s2, h1, h2, h3⟩ := q_image (b := b) hJ (xs (i + 1))
      refine fin d2 s2 _ h3 ?_
      rw [h1, Option.bind_some]
      show (X8_image (wld b d1) (b + 243) (xs (i + 1))).bind _ = _
      rw [h2, Option.bind_some]
      show (if r = r then some (Sum.inl (wld b d2, nI (i + 5))) else none) = _
      rw [if_pos rfl]
    rw [if_neg y16]
    by_cases y17 : y = 17
    · rw [if_pos y17]
      obtain ⟨r, d1, d2, s2, h1, h2, h3⟩ := q_restore (b := b) hJ (xs (i + 1))
      refine fin d2 s2 _ h3 ?_
      rw [h1, Option.bind_some]
      show (X8_restore (wld b d1) (b + 243) (xs (i + 1))).bind _ = _
      rw [h2, Option.bind_some]
      show (if r = r then some (Sum.inl (wld b d2, nI (i + 5))) else none) = _
      rw [if_pos rfl]
    rw [if_neg y17]
    by_cases y18 : y = 18
    · rw [if_pos y18]
      obtain ⟨r, d1, d2, h1, h2, h3⟩ := q_count (b := b) hJ (xs (i + 1))
      refine fin d2 s _ h3 ?_
      rw [h1, Option.bind_some]
      show (X8_count (wld b d1) (b + 243) (xs (i + 1))).bind _ = _
      rw [h2, Option.bind_some]
      show (if r = r then some (Sum.inl (wld b d2, nI (i + 5))) else none) = _
      rw [if_pos rfl]
    rw [if_neg y18]
    exact fin d s _ hJ rfl
theorem law_loop (hJ : Iv d s) (hL : L ≤ 2560) (a : Nat) : ∃ o, wloop (un2 (L_law_b18 L xs a b (b + 243))) FU (wld b d, (0 : Int32)) = some o := by
  obtain ⟨e, l1, -⟩ := wl_idx (step := un2 (L_law_b18 L xs a b (b + 243))) (fun n st => ∃ i d s, st = (wld b d, nI i) ∧ Iv d s ∧ i ≤ 2600 ∧ n + i = 2600) (fun _ => True) (by
      rintro n st ⟨i, d, s, rfl, hJ, hi, hn⟩
      show (∃ n' st', n' < n ∧ L_law_b18 L xs a b (b + 243) (wld b d) (nI i) = some (.inl st') ∧ _) ∨ ∃ e, L_law_b18 L xs a b (b + 243) (wld b d) (nI i) = some (.inr e) ∧ _
      rcases law_step (xs := xs) hJ hL hi a with g | ⟨d2, s2, g1, g2, g3⟩
      · right
        exact ⟨_, g, trivial⟩
      · left
        exact ⟨n - 5, _, by omega, g2, i + 5, d2, s2, rfl, g1, by omega, by omega⟩) 2600 (wld b d, (0 : Int32)) ⟨0, d, s, rfl, hJ, by omega, by omega⟩ FU (fu_lt (by omega))
  exact ⟨e, l1⟩
end LAW
