/-! TOLD -/
section TOLD
variable {b : Nat} {d : Da} {s : Sg} {m : Nat}
theorem X8_handOf_s {D : Da} {c : Sg} {d0 : Da} (hV : Vd s) (hB : Mb D s) (hD : ∀ i, i < ct s (s 211) → D 254 i = nI (c i)) (hm : m < s 211) (e : X8_layCrew (wld b d0) (b + 243) = some (wld b D)) : X8_handOf (wld b d0) (b + 243) (nI m) = some (hv s c m, wld b D) := by
  have h10 := hV.ln
  have h11 := ct_le hV
  unfold X8_handOf
  rw [k_mod, Option.bind_some, e, Option.bind_some]
  rw [wl_count (fun j => ((if dab s m = true ∧ ct s m < j then nI (c (ct s m)) else -6), nI j)) (ct s (s 211)) (hv s c m) ?_ ?_ (by omega) ?_]
  · rfl
  · intro j hj
    have c2 : ¬ ct s (s 211) ≤ j := by omega
    obtain ⟨a1, a2, a3⟩ := ab_ok hj
    simp (disch := omega) only [un2, X8_handOf_b9, f_mdc, hB.1, Option.bind_some, nI_leI, c2, if_false, m_ab, lA_f isA_m.2.2.2.2.2.2.1, (hB.2 j hj).1, nI_eq, m_ha, lA_f isA_m.2.2.2.2.2.2.2.2.2.2, hD j hj, nI_1]
    by_cases g : ab s j = m
    · subst g
      rw [if_pos rfl, if_pos ⟨a2, by omega⟩, a3]
    · rw [if_neg g]
      by_cases g2 : dab s m = true ∧ ct s m < j
      · rw [if_pos g2, if_pos ⟨g2.1, by omega⟩]
      · rw [if_neg g2, if_neg (fun q => ?_)]
        have : ct s m = j := by
          have := q.2
          have : ¬ ct s m < j := fun r => g2 ⟨q.1, r⟩
          omega
        rw [← this] at g
        exact g (ab_ct hm q.1).2
  · simp (disch := omega) only [un2, X8_handOf_b9, f_mdc, hB.1, Option.bind_some, nI_leI, Nat.le_refl, if_true]
    unfold hv
    cases hd : dab s m with
    | false => simp
    | true => simp [(ab_ct hm hd).1]
  · rw [if_neg (by omega)]
    rfl
theorem X7_flownBy_s {x : Int32} (hR : StR d 1 s) (hV : Vd s) (hm : m < s 211) : X7_flownBy (wld b d) b (nI m) x = some (if x = 4 then nI (eT s m) else if x = 5 then nI (hgt s (s (171 + m)) (s (181 + m))) else if x = 6 then nI (hgt s (s (171 + m)) (eT s m)) else if nI (hgt s (s (171 + m)) (eT s m)) = nI (s (191 + m)) then 0 else 1, wld b (ru d (81 + s (171 + m)) 301 (fun t => nI (hgt s (s (171 + m)) t)))) := by
  have h10 := hV.ln
  have ho := hV.of (m := m) (by omega)
  have hb := hV.bg (m := m) (by omega)
  have he := eT_le hV hm
  have hc : cS d (ru d (81 + s (171 + m)) 301 (fun t => nI (hgt s (s (171 + m)) t))) := cS.ru (by omega)
  have hR1 := hR.cs hV isS_1 hc
  unfold X7_flownBy
  simp (disch := omega) only [k_top, Option.bind_some, t_stg, t_flt, f_movs isS_1, f_mov isS_1, f_mv isS_1, hR.m0 hm, X2_trace_s isS_1 hR hV, X2_endOf_s isS_1 hR1 hV hm (Tr_1 d s (s (171 + m))), f_flt, hR1.m0 hm, hR1.m1 hm, hR1.m2 hm, f_hts, lA_f (isA_row ho), ru_in]
  by_cases x4 : x = 4
  · rw [if_pos x4, if_pos x4]
  · rw [if_neg x4, if_neg x4]
    by_cases x5 : x = 5
    · rw [if_pos x5, if_pos x5]
    · rw [if_neg x5, if_neg x5]
      by_cases x6 : x = 6
      · rw [if_pos x6, if_pos x6]
      · rw [if_neg x6, if_neg x6]
        by_cases g : nI (hgt s (s (171 + m)) (eT s m)) = nI (s (191 + m))
        · rw [if_pos g, if_pos g]
        · rw [if_neg g, if_neg g]
theorem q_told (hJ : Iv d s) (x1 x2 : Int32) : ∃ r d1 d2, X7_told (wld b d) b x1 x2 = some (r, wld b d1) ∧ X8_told (wld b d1) (b + 243) x1 x2 = some (r, wld b d2) ∧ Iv d2 s := by
  obtain ⟨hV, hR, hM, -⟩ := id hJ
  have h10 := hV.ln
  by_cases c3 : 0 ≤ x1 ∧ x1 ≤ nI (s 211) - 1
  · obtain ⟨m, hm, rfl⟩ := in_m1 (by omega) c3
    have ho := hV.of (m := m) (by omega)
    have hb := hV.bg (m := m) (by omega)
    have he := eT_le hV hm
    have hc : cS d (ru d (81 + s (171 + m)) 301 (fun t => nI (hgt s (s (171 + m)) t))) := cS.ru (by omega)
    have hM1 := hM.cs hc
    have hm2 : mS (ru d (81 + s (171 + m)) 301 (fun t => nI (hgt s (s (171 + m)) t))) (ru (ru d (81 + s (171 + m)) 301 (fun t => nI (hgt s (s (171 + m)) t))) 248 301 (hI s (s (171 + m)))) := mS.ru (by omega)
    have hM2 := hM1.ms hm2
    have fl := fun x => X7_flownBy_s (b := b) (x := x) hR hV hm
    unfold X7_told X8_told
    by_cases x0 : x2 = 0
    · subst x0
      refine ⟨nI (s (171 + m)), d, d, ?_, ?_, hJ⟩
      · simp (disch := omega) only [k_top, Option.bind_some, X7_isMove_s hR, ifb_t c3, t_stg, f_movs isS_1, f_mov isS_1, if_true, f_mv isS_1, hR.m0 hm]
      · simp (disch := omega) only [k_mod, Option.bind_some, X8_isMove_s hM, ifb_t c3, if_true, m_st]
        rw [c_171, c_10, c_0, pk_mul, nI_add, nI_add, m_s hM (by omega)]
        rfl
    by_cases x1 : x2 = 1
    · subst x1
      refine ⟨nI (s (181 + m)), d, d, ?_, ?_, hJ⟩
      · simp (disch := omega) only [k_top, Option.bind_some, X7_isMove_s hR, ifb_t c3, t_stg, f_movs isS_1, f_mov isS_1, if_neg x0, if_true, f_mv isS_1, hR.m1 hm]
      · simp (disch := omega) only [k_mod, Option.bind_some, X8_isMove_s hM, ifb_t c3, if_neg x0, if_true, m_st]
        rw [c_171, c_10, c_1, pk_mul, nI_add, nI_add, m_s hM (by omega)]
        rfl
    by_cases x3 : x2 = 2
    · subst x3
      refine ⟨nI (s (191 + m)), d, d, ?_, ?_, hJ⟩
      · simp (disch := omega) only [k_top, Option.bind_some, X7_isMove_s hR, ifb_t c3, t_stg, f_movs isS_1, f_mov isS_1, if_neg x0, if_neg x1, if_true, f_mv isS_1, hR.m2 hm]
      · simp (disch := omega) only [k_mod, Option.bind_some, X8_isMove_s hM, ifb_t c3, if_neg x0, if_neg x1, if_true, m_st]
        rw [c_171, c_10, c_2, pk_mul, nI_add, nI_add, m_s hM (by omega)]
        rfl
    by_cases x4 : x2 = 3
    · subst x4
      refine ⟨nI (s (201 + m)), d, d, ?_, ?_, hJ⟩
      · simp (disch := omega) only [k_top, Option.bind_some, X7_isMove_s hR, ifb_t c3, t_stg, f_movs isS_1, f_mov isS_1, if_neg x0, if_neg x1, if_neg x3, if_true, f_mv isS_1, hR.m3 hm]
      · simp (disch := omega) only [k_mod, Option.bind_some, X8_isMove_s hM, ifb_t c3, if_neg x0, if_neg x1, if_neg x3, if_true, m_st]
        rw [c_171, c_10, c_3, pk_mul, nI_add, nI_add, m_s hM (by omega)]
        rfl
    by_cases x5 : x2 = 4
    · subst x5
      refine ⟨nI (eT s m), ru d (81 + s (171 + m)) 301 (fun t => nI (hgt s (s (171 + m)) t)), _, ?_, ?_, hJ.q hc hm2⟩
      · simp (disch := omega) only [k_top, Option.bind_some, X7_isMove_s hR, ifb_t c3, t_stg, f_movs isS_1, f_mov isS_1, if_neg x0, if_neg x1, if_neg x3, if_neg x4, if_true, fl, un2]
      · simp (disch := omega) only [k_mod, Option.bind_some, X8_isMove_s hM1, ifb_t c3, if_neg x0, if_neg x1, if_neg x3, if_neg x4, if_true, X8_endOf_s hM1 hV hm, un2]
    by_cases x6 : x2 = 5
    · subst x6
      refine ⟨nI (hgt s (s (171 + m)) (s (181 + m))), ru d (81 + s (171 + m)) 301 (fun t => nI (hgt s (s (171 + m)) t)), _, ?_, ?_, hJ.q hc hm2⟩
      · simp (disch := omega) only [k_top, Option.bind_some, X7_isMove_s hR, ifb_t c3, t_stg, f_movs isS_1, f_mov isS_1, if_neg x0, if_neg x1, if_neg x3, if_neg x4, if_neg x5, if_true, fl, un2]
      · simp (disch := omega) only [k_mod, Option.bind_some, X8_isMove_s hM1, ifb_t c3, if_neg x0, if_neg x1, if_neg x3, if_neg x4, if_neg x5, if_true, m_st, c_171, c_181, nI_add, m_s hM1, X8_layHeights_s hM1 hV, m_ht, m_s hM2, lA_f isA_m.2.2.2.2.1, ru_in]
        rfl
    by_cases x7 : x2 = 6
    · subst x7
      refine ⟨nI (hgt s (s (171 + m)) (eT s m)), ru d (81 + s (171 + m)) 301 (fun t => nI (hgt s (s (171 + m)) t)), _, ?_, ?_, hJ.q hc hm2⟩
      · simp (disch := omega) only [k_top, Option.bind_some, X7_isMove_s hR, ifb_t c3, t_stg, f_movs isS_1, f_mov isS_1, if_neg x0, if_neg x1, if_neg x3, if_neg x4, if_neg x5, if_neg x6, if_true, fl, un2]
      · simp (disch := omega) only [k_mod, Option.bind_some, X8_isMove_s hM1, ifb_t c3, if_neg x0, if_neg x1, if_neg x3, if_neg x4, if_neg x5, if_neg x6, if_true, m_ht, X8_endOf_s hM1 hV hm, un2, lA_f isA_m.2.2.2.2.1, ru_in]
        rfl
    by_cases x8 : x2 = 7
    · subst x8
      refine ⟨if nI (hgt s (s (171 + m)) (eT s m)) = nI (s (191 + m)) then 0 else 1, ru d (81 + s (171 + m)) 301 (fun t => nI (hgt s (s (171 + m)) t)), _, ?_, ?_, hJ.q hc hm2⟩
      · simp (disch := omega) only [k_top, Option.bind_some, X7_isMove_s hR, ifb_t c3, t_stg, f_movs isS_1, f_mov isS_1, if_neg x0, if_neg x1, if_neg x3, if_neg x4, if_neg x5, if_neg x6, if_neg x7, if_true, fl, un2]
      · simp (disch := omega) only [k_mod, Option.bind_some, X8_isMove_s hM1, ifb_t c3, if_neg x0, if_neg x1, if_neg x3, if_neg x4, if_neg x5, if_neg x6, if_neg x7, if_true, X8_isCut, m_ht, X8_endOf_s hM1 hV hm, un2, lA_f isA_m.2.2.2.2.1, ru_in, m_st, c_191, nI_add, m_s hM2]
        show ((if nI (hgt s (s (171 + m)) (eT s m)) = nI (s (191 + m)) then some ((0 : Int32), _) else some ((1 : Int32), _)).bind _) = _
        by_cases g : nI (hgt s (s (171 + m)) (eT s m)) = nI (s (191 + m))
        · rw [if_pos g, if_pos g]; rfl
        · rw [if_neg g, if_neg g]; rfl
    by_cases x9 : x2 = 8
    · subst x9
      obtain ⟨D, D', L, c, e1, e2, e3, e4, e5, e6, e7, e8, e9⟩ := same_crew (b := b) hJ
      refine ⟨hv s c m, D, D', ?_, ?_, e4⟩
      · simp (disch := omega) only [k_top, Option.bind_some, X7_isMove_s hR, ifb_t c3, t_stg, t_crw, t_flt, f_movs isS_1, f_mov isS_1, if_neg x0, if_neg x1, if_neg x3, if_neg x4, if_neg x5, if_neg x6, if_neg x7, if_neg x8, if_true, e1, f_crw, Nat.reduceAdd, lA_f isA_c.2.2.2.1, e5.2.2.2 m hm]
      · simp (disch := omega) only [k_mod, Option.bind_some, X8_isMove_s (hM.cs e3), ifb_t c3, if_neg x0, if_neg x1, if_neg x3, if_neg x4, if_neg x5, if_neg x6, if_neg x7, if_neg x8, if_true, X8_handOf_s hV e6 e9 hm e2, un2]
    · refine ⟨-2, d, d, ?_, ?_, hJ⟩
      · simp (disch := omega) only [k_top, Option.bind_some, X7_isMove_s hR, ifb_t c3, t_stg, f_movs isS_1, f_mov isS_1, if_neg x0, if_neg x1, if_neg x3, if_neg x4, if_neg x5, if_neg x6, if_neg x7, if_neg x8, if_neg x9]
      · simp (disch := omega) only [k_mod, Option.bind_some, X8_isMove_s hM, ifb_t c3, if_neg x0, if_neg x1, if_neg x3, if_neg x4, if_neg x5, if_neg x6, if_neg x7, if_neg x8, if_neg x9]
  · refine ⟨-1, d, d, ?_, ?_, hJ⟩
    · unfold X7_told
      simp only [k_top, Option.bind_some, X7_isMove_s hR, ifb_f c3]
    · unfold X8_told
      simp only [k_mod, Option.bind_some, X8_isMove_s hM, ifb_f c3]
end TOLD
