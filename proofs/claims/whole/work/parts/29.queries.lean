/-! WHAT HOLDS BETWEEN TWO CALLS -/
def Im (d : Da) (kb : Nat) : Prop := kb < 4 ∧ d 0 2 = nI kb ∧ ∀ k, k < 2 → d 246 k = bI (kb.testBit k) ∧ (kb.testBit k = true → ∃ s', Vd s' ∧ StR d (97 + 73 * k) s' ∧ ∀ i, i < 212 → d 245 (212 * k + i) = nI (s' i))
def Iv (d : Da) (s : Sg) : Prop := Vd s ∧ StR d 1 s ∧ M8 d s ∧ ∃ kb, Im d kb
theorem isS_1 : isS 1 := Or.inl rfl
theorem isS_k {k : Nat} (h : k < 2) : isS (97 + 73 * k) := by
  match k, h with
  | 0, _ => exact Or.inr (Or.inl rfl)
  | 1, _ => exact Or.inr (Or.inr rfl)
theorem Im.cg {d d' : Da} {kb : Nat} (h : Im d kb) (h0 : d' 0 = d 0) (h1 : d' 245 = d 245) (h2 : d' 246 = d 246) (h3 : ∀ k, 97 ≤ k → k < 243 → d' k = d k) : Im d' kb := by
  obtain ⟨g1, g2, g3⟩ := h
  refine ⟨g1, by rw [h0]; exact g2, fun k hk => ?_⟩
  obtain ⟨g4, g5⟩ := g3 k hk
  refine ⟨by rw [h2]; exact g4, fun hb => ?_⟩
  obtain ⟨s', v, r, e⟩ := g5 hb
  exact ⟨s', v, r.cg v.ln (fun j a1 a2 => h3 j (by omega) (by omega)), fun i hi => by rw [h1]; exact e i hi⟩
theorem Iv.q {d d1 d2 : Da} {s : Sg} (h : Iv d s) (hc : cS d d1) (hm : mS d1 d2) : Iv d2 s := by
  obtain ⟨h1, h2, h3, kb, h4⟩ := h
  refine ⟨h1, (h2.cs h1 isS_1 hc).ms h1 isS_1 hm, (h3.cs hc).ms hm, kb, h4.cg ?_ ?_ ?_ (fun k a1 a2 => ?_)⟩
  · rw [hm 0 (by omega), hc 0 (by omega)]
  · rw [hm 245 (by omega), hc 245 (by omega)]
  · rw [hm 246 (by omega), hc 246 (by omega)]
  · rw [hm k (by omega), hc k (by omega)]
theorem ifb_t {α : Type} {P : Prop} [Decidable P] {A B : α} (h : P) : (if bI (decide P) = 0 then A else B) = B := by
  rw [if_neg]
  rw [show decide P = true by simpa using h]
  decide
theorem ifb_f {α : Type} {P : Prop} [Decidable P] {A B : α} (h : ¬ P) : (if bI (decide P) = 0 then A else B) = A := by
  rw [if_pos]
  rw [show decide P = false by simpa using h]
  rfl
theorem t_stg {b : Nat} {d : Da} : gR (wld b d) b 7 0 = some (b + 1) := f_top (by decide)
theorem t_img {b : Nat} {d : Da} : gR (wld b d) b 7 1 = some (b + 74) := f_top (by decide)
theorem t_ldr {b : Nat} {d : Da} : gR (wld b d) b 7 3 = some (b + 75) := f_top (by decide)
theorem t_flt {b : Nat} {d : Da} : gR (wld b d) b 7 4 = some (b + 79) := f_top (by decide)
theorem t_crw {b : Nat} {d : Da} : gR (wld b d) b 7 5 = some (b + 91) := f_top (by decide)
theorem Tr_1 (d : Da) (s : Sg) (q : Nat) : Tr (ru d (81 + q) 301 (fun t => nI (hgt s q t))) s q := fun t ht => ru_in _ _ _ _ (by omega)
theorem Tr_2 {d : Da} {s : Sg} {q r : Nat} (h : Tr d s q) (hne : q ≠ r) : Tr (ru d (81 + r) 301 (fun t => nI (hgt s r t))) s q := fun t ht => by rw [ru_ne _ _ _ (by omega)]; exact h t ht
section QUER
variable {b : Nat} {d : Da} {q r i m : Nat} {s : Sg}
theorem q_height (hJ : Iv d s) (x1 x2 : Int32) : ∃ r d1 d2, X7_height (wld b d) b x1 x2 = some (r, wld b d1) ∧ X8_height (wld b d1) (b + 243) x1 x2 = some (r, wld b d2) ∧ Iv d2 s := by
  obtain ⟨hV, hR, hM, -⟩ := id hJ
  unfold X7_height X8_height
  simp only [k_top, k_mod, Option.bind_some, X7_isBar_s, X8_isBar_s, X7_isTime_s, X8_in_s]
  by_cases c1 : 0 ≤ x1 ∧ x1 ≤ 9
  · by_cases c2 : 0 ≤ x2 ∧ x2 ≤ 300
    · obtain ⟨q, hq, rfl⟩ := in_nI (n := 9) (by omega) c1
      obtain ⟨t, ht, rfl⟩ := in_nI (n := 300) (by omega) c2
      refine ⟨nI (hgt s q t), ru d (81 + q) 301 (fun t => nI (hgt s q t)), ru (ru d (81 + q) 301 (fun t => nI (hgt s q t))) 248 301 (hI s q), ?_, ?_, hJ.q (cS.ru (by omega)) (mS.ru (by omega))⟩
      · rw [ifb_t c1, ifb_t c2]
        simp (disch := omega) only [t_stg, t_flt, Option.bind_some, X2_trace_s isS_1 hR hV, f_flt, f_hts, lA_f (isA_row (j := q) (by omega)), ru_in]
      · rw [ifb_t c1, ifb_t c2]
        simp (disch := omega) only [m_ht, Option.bind_some, X8_layHeights_s (hM.cs (cS.ru (d := d) (K := 81 + q) (n := 301) (f := fun t => nI (hgt s q t)) (by omega))) hV, lA_f isA_m.2.2.2.2.1, ru_in]
        rfl
    · exact ⟨-2, d, d, by rw [ifb_t c1, ifb_f c2], by rw [ifb_t c1, ifb_f c2], hJ⟩
  · exact ⟨-1, d, d, by rw [ifb_f c1], by rw [ifb_f c1], hJ⟩
theorem hit_bb (h : can s q r = true) (t : Nat) : hit s q r t = ovl s q r t := by simp [hit, h]
theorem q_strike (hJ : Iv d s) (x1 x2 x3 : Int32) : ∃ r d1 d2, X7_strike (wld b d) b x1 x2 x3 = some (r, wld b d1) ∧ X8_strike (wld b d1) (b + 243) x1 x2 x3 = some (r, wld b d2) ∧ Iv d2 s := by
  obtain ⟨hV, hR, hM, -⟩ := id hJ
  unfold X7_strike X8_strike
  simp only [k_top, k_mod, Option.bind_some, X7_isBar_s, X8_isBar_s, X7_isTime_s, X8_in_s]
  by_cases c1 : 0 ≤ x1 ∧ x1 ≤ 9
  · by_cases c2 : 0 ≤ x2 ∧ x2 ≤ 9
    · by_cases c3 : x1 = x2
      · exact ⟨-2, d, d, by rw [ifb_t c1, ifb_t c2, if_pos c3], by rw [ifb_t c1, ifb_t c2, if_pos c3], hJ⟩
      · by_cases c4 : 0 ≤ x3 ∧ x3 ≤ 300
        · obtain ⟨q, hq, rfl⟩ := in_nI (n := 9) (by omega) c1
          obtain ⟨r, hr, rfl⟩ := in_nI (n := 9) (by omega) c2
          obtain ⟨t, ht, rfl⟩ := in_nI (n := 300) (by omega) c4
          have hne : q ≠ r := fun e => c3 (by rw [e])
          have s1 : cS d (ru d (81 + q) 301 (fun t => nI (hgt s q t))) := cS.ru (by omega)
          have s2 : cS (ru d (81 + q) 301 (fun t => nI (hgt s q t))) (ru (ru d (81 + q) 301 (fun t => nI (hgt s q t))) (81 + r) 301 (fun t => nI (hgt s r t))) := cS.ru (by omega)
          have hR1 := hR.cs hV isS_1 s1
          have hR2 := hR1.cs hV isS_1 s2
          have hT1 : Tr (ru (ru d (81 + q) 301 (fun t => nI (hgt s q t))) (81 + r) 301 (fun t => nI (hgt s r t))) s q := Tr_2 (Tr_1 d s q) hne
          have hT2 : Tr (ru (ru d (81 + q) 301 (fun t => nI (hgt s q t))) (81 + r) 301 (fun t => nI (hgt s r t))) s r := Tr_1 _ s r
          have hM2 := hM.cs (s1.tr s2)
          refine ⟨bI (hit s q r t), ru (ru d (81 + q) 301 (fun t => nI (hgt s q t))) (81 + r) 301 (fun t => nI (hgt s r t)), lr (ru (ru d (81 + q) 301 (fun t => nI (hgt s q t))) (81 + r) 301 (fun t => nI (hgt s r t))) s 10, ?_, ?_, hJ.q (s1.tr s2) (lr_mS _ s 10)⟩
          · rw [ifb_t c1, ifb_t c2, if_neg c3, ifb_t c4]
            simp (disch := omega) only [t_stg, t_flt, Option.bind_some, X2_trace_s isS_1 hR hV, X2_trace_s isS_1 hR1 hV, X2_canStrike_s isS_1 hR2 hV, bI_0]
            cases h0 : can s q r with
            | false =>
              rw [if_pos rfl, show hit s q r t = false by simp [hit, h0]]
              rfl
            | true =>
              rw [if_neg (by decide), X2_overlap_s isS_1 hR2 hV (by omega) (by omega) ht hT1 hT2 h0, Option.bind_some, hit_bb h0]
              cases ovl s q r t <;> rfl
          · rw [ifb_t c1, ifb_t c2, if_neg c3, ifb_t c4]
            simp (disch := omega) only [X8_layRows_s hM2 hV, Option.bind_some]
            rw [X8_doStrike_s (hM2.ms (lr_mS _ s 10)) hV (by omega) (by omega) ht (fun q t a1 a2 => lr_in _ s 10 q t a1 a2), Option.bind_some]
            cases hit s q r t <;> rfl
        · exact ⟨-2, d, d, by rw [ifb_t c1, ifb_t c2, if_neg c3, ifb_f c4], by rw [ifb_t c1, ifb_t c2, if_neg c3, ifb_f c4], hJ⟩
    · exact ⟨-1, d, d, by rw [ifb_t c1, ifb_f c2], by rw [ifb_t c1, ifb_f c2], hJ⟩
  · exact ⟨-1, d, d, by rw [ifb_f c1], by rw [ifb_f c1], hJ⟩
theorem q_often (hJ : Iv d s) (x1 x2 : Int32) : ∃ r d1 d2, X7_often (wld b d) b x1 x2 = some (r, wld b d1) ∧ X8_often (wld b d1) (b + 243) x1 x2 = some (r, wld b d2) ∧ Iv d2 s := by
  obtain ⟨hV, hR, hM, -⟩ := id hJ
  unfold X7_often X8_often
  simp only [k_top, k_mod, Option.bind_some, X7_isBar_s, X8_isBar_s]
  by_cases c1 : 0 ≤ x1 ∧ x1 ≤ 9
  · by_cases c2 : 0 ≤ x2 ∧ x2 ≤ 9
    · by_cases c3 : x1 = x2
      · exact ⟨-2, d, d, by rw [ifb_t c1, ifb_t c2, if_pos c3], by rw [ifb_t c1, ifb_t c2, if_pos c3], hJ⟩
      · obtain ⟨q, hq, rfl⟩ := in_nI (n := 9) (by omega) c1
        obtain ⟨r, hr, rfl⟩ := in_nI (n := 9) (by omega) c2
        have hne : q ≠ r := fun e => c3 (by rw [e])
        have s1 : cS d (ru d (81 + q) 301 (fun t => nI (hgt s q t))) := cS.ru (by omega)
        have s2 : cS (ru d (81 + q) 301 (fun t => nI (hgt s q t))) (ru (ru d (81 + q) 301 (fun t => nI (hgt s q t))) (81 + r) 301 (fun t => nI (hgt s r t))) := cS.ru (by omega)
        have hR1 := hR.cs hV isS_1 s1
        have hR2 := hR1.cs hV isS_1 s2
        have hT1 : Tr (ru (ru d (81 + q) 301 (fun t => nI (hgt s q t))) (81 + r) 301 (fun t => nI (hgt s r t))) s q := Tr_2 (Tr_1 d s q) hne
        have hT2 : Tr (ru (ru d (81 + q) 301 (fun t => nI (hgt s q t))) (81 + r) 301 (fun t => nI (hgt s r t))) s r := Tr_1 _ s r
        have hM2 := hM.cs (s1.tr s2)
        refine ⟨nI (cN (hit s q r) 301), ru (ru d (81 + q) 301 (fun t => nI (hgt s q t))) (81 + r) 301 (fun t => nI (hgt s r t)), lr (ru (ru d (81 + q) 301 (fun t => nI (hgt s q t))) (81 + r) 301 (fun t => nI (hgt s r t))) s 10, ?_, ?_, hJ.q (s1.tr s2) (lr_mS _ s 10)⟩
        · rw [ifb_t c1, ifb_t c2, if_neg c3]
          simp (disch := omega) only [t_stg, t_flt, Option.bind_some, X2_trace_s isS_1 hR hV, X2_trace_s isS_1 hR1 hV]
          rw [X2_strikesOf_s isS_1 hR2 hV (by omega) (by omega) hT1 hT2, Option.bind_some]
        · rw [ifb_t c1, ifb_t c2, if_neg c3]
          simp (disch := omega) only [X8_layRows_s hM2 hV, Option.bind_some]
          rw [wl_count (fun i => (nI (cN (hit s q r) i), nI i)) 301 (nI (cN (hit s q r) 301)) ?_ ?_ (by omega) ?_]
          · rfl
          · intro i hi
            have c1 : ¬ 300 < i := by omega
            simp (disch := omega) only [un2, X8_often_b33, c_300, nI_ltI, c1, if_false, X8_doStrike_s (hM2.ms (lr_mS _ s 10)) hV (q := q) (r := r) (by omega) (by omega) (t := i) (by omega) (fun q t a1 a2 => lr_in _ s 10 q t a1 a2), Option.bind_some, bI_0, cN_succ]
            cases hit s q r i <;> simp [c_0, c_1, nI_add]
          · simp (disch := omega) only [un2, X8_often_b33, c_300, nI_ltI]
            rfl
          · rfl
    · exact ⟨-1, d, d, by rw [ifb_t c1, ifb_f c2], by rw [ifb_t c1, ifb_f c2], hJ⟩
  · exact ⟨-1, d, d, by rw [ifb_f c1], by rw [ifb_f c1], hJ⟩
theorem in_sub {x : Int32} {a n : Nat} (hn : a + n < 2 ^ 31) (h : nI a ≤ x ∧ x ≤ nI (a + n)) : ∃ j, j ≤ n ∧ x = nI (a + j) := by
  obtain ⟨j, hj, rfl⟩ := in_nI (n := a + n) hn ⟨Int32.le_trans (nI_pos' (by omega)) h.1, h.2⟩
  have := (nI_leI (by omega) (by omega)).mp h.1
  exact ⟨j - a, by omega, by rw [show a + (j - a) = j by omega]⟩
theorem q_bar (hJ : Iv d s) (x1 x2 : Int32) : ∃ r, X7_bar (wld b d) b x1 x2 = some r ∧ X8_bar (wld b d) (b + 243) x1 x2 = some r := by
  obtain ⟨hV, hR, hM, -⟩ := id hJ
  unfold X7_bar X8_bar
  simp only [k_top, k_mod, Option.bind_some, X7_isBar_s, X8_isBar_s, X7_within_s, X8_in_s]
  by_cases c1 : 0 ≤ x1 ∧ x1 ≤ 9
  · obtain ⟨q, hq, rfl⟩ := in_nI (n := 9) (by omega) c1
    have hq : q < 10 := by omega
    rw [ifb_t c1, ifb_t c1]
    simp only [t_stg, f_bars isS_1, f_bar isS_1 hq, Option.bind_some]
    by_cases c2 : 10 ≤ x2 ∧ x2 ≤ 15
    · obtain ⟨j, hj, rfl⟩ := in_sub (a := 10) (n := 5) (by omega) c2
      rw [ifb_t c2, ifb_t c2]
      refine ⟨if j < s (30 + 10 * 0 + q) then nI (s (50 + 12 * q + 6 * 0 + j)) else -6, ?_, ?_⟩
      · rw [f_pcs isS_1 hq, Option.bind_some, c_10, pk_sub (by omega), show 10 + j - 10 = j by omega, X5_weightOf_s isS_1 hR hV hq (by omega) (by omega), Option.bind_some]
      · rw [c_10, pk_sub (by omega), c_0, show 10 + j - 10 = j by omega, X8_thing_s hM hV hq (by omega) (by omega), Option.bind_some]
    · rw [ifb_f c2, ifb_f c2]
      by_cases c3 : 20 ≤ x2 ∧ x2 ≤ 25
      · obtain ⟨j, hj, rfl⟩ := in_sub (a := 20) (n := 5) (by omega) c3
        rw [ifb_t c3, ifb_t c3]
        refine ⟨if j < s (30 + 10 * 1 + q) then nI (s (50 + 12 * q + 6 * 1 + j)) else -6, ?_, ?_⟩
        · rw [f_brk isS_1 hq, Option.bind_some, c_20, pk_sub (by omega), show 20 + j - 20 = j by omega, X5_weightOf_s isS_1 hR hV hq (by omega) (by omega), Option.bind_some]
        · rw [c_20, pk_sub (by omega), c_1, show 20 + j - 20 = j by omega, X8_thing_s hM hV hq (by omega) (by omega), Option.bind_some]
      · rw [ifb_f c3, ifb_f c3]
        by_cases e0 : x2 = 0
        · subst e0
          refine ⟨nI (s q), ?_, ?_⟩
          · simp (disch := omega) only [if_true, f_set isS_1 hq, Option.bind_some, c_0, lA_f (isA_set isS_1 hq), hR.s0 hq]
          · simp (disch := omega) only [if_true, m_st, Option.bind_some, c_0, c_10, pk_mul, nI_add, m_s hM]
            simp
        · by_cases e1 : x2 = 1
          · subst e1
            refine ⟨nI (s (10 + q)), ?_, ?_⟩
            · rw [if_neg e0, if_pos rfl]
              simp (disch := omega) only [f_set isS_1 hq, Option.bind_some, c_1, lA_f (isA_set isS_1 hq), hR.s1 hq]
            · rw [if_neg e0, if_pos rfl]
              simp (disch := omega) only [m_st, Option.bind_some, c_1, c_10, pk_mul, nI_add, m_s hM, Nat.mul_one]
          · by_cases e2 : x2 = 2
            · subst e2
              refine ⟨nI (s (20 + q)), ?_, ?_⟩
              · rw [if_neg e0, if_neg e1, if_pos rfl]
                simp (disch := omega) only [f_set isS_1 hq, Option.bind_some, c_2, lA_f (isA_set isS_1 hq), hR.s2 hq]
              · rw [if_neg e0, if_neg e1, if_pos rfl]
                simp (disch := omega) only [m_st, Option.bind_some, c_2, c_10, pk_mul, nI_add, m_s hM]
            · by_cases e3 : x2 = 3
              · subst e3
                refine ⟨nI (s (30 + q)), ?_, ?_⟩
                · simp (disch := omega) only [if_neg e0, if_neg e1, if_neg e2, if_true, f_pcs isS_1 hq, Option.bind_some, f_siz isS_1 hq, hR.pi hq, Nat.mul_zero, Nat.add_zero]
                · rw [if_neg e0, if_neg e1, if_neg e2, if_pos rfl, show (3 : Int32) - 3 = nI 0 by decide, X8_many_s hM hq (by omega)]
                  rfl
              · by_cases e4 : x2 = 4
                · subst e4
                  refine ⟨nI (s (40 + q)), ?_, ?_⟩
                  · simp (disch := omega) only [if_neg e0, if_neg e1, if_neg e2, if_neg e3, if_true, f_brk isS_1 hq, Option.bind_some, f_siz isS_1 hq, hR.pi hq]
                  · rw [if_neg e0, if_neg e1, if_neg e2, if_neg e3, if_pos rfl, show (4 : Int32) - 3 = nI 1 by decide, X8_many_s hM hq (by omega)]
                    rfl
                · by_cases e5 : x2 = 5
                  · subst e5
                    refine ⟨nI (tog s q 0), ?_, ?_⟩
                    · rw [if_neg e0, if_neg e1, if_neg e2, if_neg e3, if_neg e4, if_pos rfl, f_pcs isS_1 hq, Option.bind_some, X5_total_s isS_1 hR hV hq (by omega)]
                      rfl
                    · rw [if_neg e0, if_neg e1, if_neg e2, if_neg e3, if_neg e4, if_pos rfl, show (5 : Int32) - 5 = nI 0 by decide, X8_together_s hM hV hq (by omega)]
                      rfl
                  · by_cases e6 : x2 = 6
                    · subst e6
                      refine ⟨nI (tog s q 1), ?_, ?_⟩
                      · rw [if_neg e0, if_neg e1, if_neg e2, if_neg e3, if_neg e4, if_neg e5, if_pos rfl, f_brk isS_1 hq, Option.bind_some, X5_total_s isS_1 hR hV hq (by omega)]
                        rfl
                      · rw [if_neg e0, if_neg e1, if_neg e2, if_neg e3, if_neg e4, if_neg e5, if_pos rfl, show (6 : Int32) - 5 = nI 1 by decide, X8_together_s hM hV hq (by omega)]
                        rfl
                    · by_cases e7 : x2 = 7
                      · subst e7
                        refine ⟨bI (evn s q), ?_, ?_⟩
                        · rw [if_neg e0, if_neg e1, if_neg e2, if_neg e3, if_neg e4, if_neg e5, if_neg e6, if_pos rfl, f_sway isS_1, Option.bind_some, hR.sw, X0_isEven_s isS_1 hR hV hq, Option.bind_some]
                          cases evn s q <;> rfl
                        · rw [if_neg e0, if_neg e1, if_neg e2, if_neg e3, if_neg e4, if_neg e5, if_neg e6, if_pos rfl, X8_isEven_s hM hV hq, Option.bind_some]
                          cases evn s q <;> rfl
                      · by_cases e8 : x2 = 8
                        · subst e8
                          refine ⟨nI (mvs s q), ?_, ?_⟩
                          · rw [if_neg e0, if_neg e1, if_neg e2, if_neg e3, if_neg e4, if_neg e5, if_neg e6, if_neg e7, if_pos rfl, X6_movesOf_s isS_1 hR hV hq]
                            rfl
                          · rw [if_neg e0, if_neg e1, if_neg e2, if_neg e3, if_neg e4, if_neg e5, if_neg e6, if_neg e7, if_pos rfl, X8_movesOf_s hM hV hq]
                            rfl
                        · exact ⟨-2, by rw [if_neg e0, if_neg e1, if_neg e2, if_neg e3, if_neg e4, if_neg e5, if_neg e6, if_neg e7, if_neg e8], by rw [if_neg e0, if_neg e1, if_neg e2, if_neg e3, if_neg e4, if_neg e5, if_neg e6, if_neg e7, if_neg e8]⟩
  · exact ⟨-1, by rw [ifb_f c1], by rw [ifb_f c1]⟩
end QUER
