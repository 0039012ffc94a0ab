/-! CALLS THAT CHANGE THE STATE -/
def sU (s : Sg) (k v : Nat) : Sg := fun i => if i = k then v else s i
theorem sU_eq (s : Sg) (k v : Nat) : sU s k v k = v := if_pos rfl
theorem sU_ne (s : Sg) {k i : Nat} (v : Nat) (h : i ≠ k) : sU s k v i = s i := if_neg h
theorem Iv.mk {d d1 d2 : Da} {s' : Sg} {kb : Nat} (hV : Vd s') (hR : StR d1 1 s') (hM : M8 d2 s') (hI : Im d kb) (h1 : ∀ k, k = 0 ∨ 74 ≤ k → d1 k = d k) (h2 : ∀ k, k ≠ 244 → d2 k = d1 k) : Iv d2 s' :=
  ⟨hV, hR.cg hV.ln (fun k a1 a2 => h2 k (by omega)), hM, kb, hI.cg (by rw [h2 0 (by omega), h1 0 (by omega)]) (by rw [h2 245 (by omega), h1 245 (by omega)]) (by rw [h2 246 (by omega), h1 246 (by omega)]) (fun k a1 a2 => by rw [h2 k (by omega), h1 k (by omega)])⟩
theorem M8.du {d : Da} {s : Sg} (h : M8 d s) (k v : Nat) : M8 (du d 244 k (nI v)) (sU s k v) := by
  intro i hi
  rw [du_at]
  unfold sU
  by_cases e : i = k
  · rw [if_pos ⟨rfl, e⟩, if_pos e]
  · rw [if_neg (fun g => e g.2), if_neg e]
    exact h i hi
theorem Vd.set {s : Sg} (h : Vd s) {k v : Nat} (hk : k < 10 ∧ v ≤ 60 ∨ 10 ≤ k ∧ k < 20 ∧ v ≤ 40 ∨ 20 ≤ k ∧ k < 30 ∧ v ≤ 3 ∨ k = 170 ∧ v ≤ 100) : Vd (sU s k v) := by
  obtain ⟨h1, h2, h3, h4, h5, h6, h7, h8⟩ := h
  refine ⟨fun q hq => ?_, fun q i hq hi => ?_, fun q i j hq hi hj => ?_, ?_, ?_, fun m hm => ?_, fun m hm => ?_, fun m j hm hj => ?_⟩
  · have := h1 q hq
    unfold sU
    refine ⟨?_, ?_, ?_⟩ <;> split <;> omega
  · rw [sU_ne _ _ (by omega)]; exact h2 q i hq hi
  · rw [sU_ne _ _ (by omega)]; exact h3 q i j hq hi hj
  · unfold sU; split <;> omega
  · rw [sU_ne _ _ (by omega)]; exact h5
  · rw [sU_ne _ _ (by omega), sU_ne _ _ (by omega), sU_ne _ _ (by omega), sU_ne _ _ (by omega)]; exact h6 m hm
  · rw [sU_ne _ _ (by omega)] at hm ⊢; exact h7 m hm
  · rw [sU_ne _ _ (by omega)] at hm hj
    rw [sU_ne _ _ (by omega), sU_ne _ _ (by omega), sU_ne _ _ (by omega), sU_ne _ _ (by omega)]
    exact h8 m j hm hj
theorem StR.set {d : Da} {p : Nat} {s : Sg} (h : StR d p s) (hln : s 211 ≤ 10) {q w v : Nat} (hq : q < 10) (hw : w < 3) : StR (du d (lSet p q) w (nI v)) p (sU s (10 * w + q) v) := by
  obtain ⟨h1, h2, h3, h4, h5, h6⟩ := h
  refine ⟨fun q' w' hq' hw' => ?_, fun q' i hq' hi => ?_, fun q' i k hq' hi hk => ?_, ?_, ?_, fun m f hm hf => ?_⟩
  · rw [du_at]
    unfold sU
    by_cases e : q' = q ∧ w' = w
    · rw [if_pos ⟨by rw [e.1], e.2⟩, if_pos (by omega)]
    · rw [if_neg (fun g => e ⟨by have := g.1; unfold lSet at this; omega, g.2⟩), if_neg (by omega)]
      exact h1 q' w' hq' hw'
  · rw [du_row _ _ _ (by unfold lSet lPil; omega), sU_ne _ _ (by omega)]; exact h2 q' i hq' hi
  · rw [sU_ne _ _ (by omega)] at hk
    rw [du_row _ _ _ (by unfold lSet lWei; omega), sU_ne _ _ (by omega)]; exact h3 q' i k hq' hi hk
  · rw [du_row _ _ _ (by unfold lSet; omega), sU_ne _ _ (by omega)]; exact h4
  · rw [du_row _ _ _ (by unfold lSet; omega), sU_ne _ _ (by omega)]; exact h5
  · rw [sU_ne _ _ (by omega)] at hm
    rw [du_row _ _ _ (by unfold lSet lMov; omega), sU_ne _ _ (by omega)]; exact h6 m f hm hf
theorem StR.sway {d : Da} {p : Nat} {s : Sg} (h : StR d p s) (hV : Vd s) {v : Nat} : StR (du d p 3 (nI v)) p (sU s 170 v) := by
  have hln := hV.ln
  obtain ⟨h1, h2, h3, h4, h5, h6⟩ := h
  refine ⟨fun q' w' hq' hw' => ?_, fun q' i hq' hi => ?_, fun q' i k hq' hi hk => ?_, ?_, ?_, fun m f hm hf => ?_⟩
  · rw [du_row _ _ _ (by unfold lSet; omega), sU_ne _ _ (by omega)]; exact h1 q' w' hq' hw'
  · rw [du_row _ _ _ (by unfold lPil; omega), sU_ne _ _ (by omega)]; exact h2 q' i hq' hi
  · rw [sU_ne _ _ (by omega)] at hk
    have h6' := hV.mn hq' hi
    rw [du_row _ _ _ (by unfold lWei; omega), sU_ne _ _ (by omega)]; exact h3 q' i k hq' hi hk
  · rw [du_ne _ _ _ (by omega), sU_ne _ _ (by omega)]; exact h4
  · rw [du_self, sU_eq]
  · rw [sU_ne _ _ (by omega)] at hm
    rw [du_row _ _ _ (by unfold lMov; omega), sU_ne _ _ (by omega)]; exact h6 m f hm hf
section MUT
variable {b : Nat} {d : Da} {q r i m : Nat} {s : Sg}
theorem ldS_s {w : Nat} (hw : w < 4) : ldS (nI w) = some (gsF w) := by
  match w, hw with
  | 0, _ => rfl
  | 1, _ => rfl
  | 2, _ => rfl
  | 3, _ => rfl
theorem q_set (hJ : Iv d s) (x1 x2 x3 : Int32) : ∃ r d1 d2 s', X7_set (wld b d) b x1 x2 x3 = some (r, wld b d1) ∧ X8_set (wld b d1) (b + 243) x1 x2 x3 = some (r, wld b d2) ∧ Iv d2 s' := by
  obtain ⟨hV, hR, hM, kb, hIm⟩ := id hJ
  have hS := hV.sw
  unfold X7_set X8_set X8_set_L50 X8_set_L76
  simp only [k_top, k_mod, Option.bind_some, X7_isBar_s, X8_isBar_s, X7_within_s, X8_in_s]
  by_cases c1 : 0 ≤ x1 ∧ x1 ≤ 9
  · obtain ⟨q, hq, rfl⟩ := in_nI (n := 9) (by omega) c1
    have hq : q < 10 := by omega
    by_cases c2 : 0 ≤ x2 ∧ x2 ≤ 3
    · obtain ⟨w, hw, rfl⟩ := in_nI (n := 3) (by omega) c2
      simp only [ifb_t c1, ifb_t c2, ldS_s (show w < 4 by omega), Option.bind_some]
      have fin : ∀ g : Nat, g ≤ 100 → gsF w = nI g → (w = 0 ∧ g = 60 ∨ w = 1 ∧ g = 40 ∨ w = 2 ∧ g = 3 ∨ w = 3 ∧ g = 100) → ∃ r d1 d2 s', (if bI (decide (0 ≤ x3 ∧ x3 ≤ gsF w)) = 0 then some (-2, wld b d) else if nI w = 3 then (gR (wld b d) b 7 0).bind fun w31 => (gI (wld b d) w31 6 3).bind fun v33 => (gR (wld b d) b 7 0).bind fun w35 => (pV (wld b d) w35 6 3 (.int x3)).bind fun M37 => some (v33, M37) else (gR (wld b d) b 7 0).bind fun w11 => (gR (wld b d) w11 6 0).bind fun w13 => (lR (wld b d) 2 w13 (nI q)).bind fun w15 => (gR (wld b d) w15 0 0).bind fun w17 => (lA (wld b d) 0 w17 (nI w)).bind fun v19 => (gR (wld b d) b 7 0).bind fun w21 => (gR (wld b d) w21 6 0).bind fun w23 => (lR (wld b d) 2 w23 (nI q)).bind fun w25 => (gR (wld b d) w25 0 0).bind fun w27 => (sA (wld b d) w27 (nI w) x3).bind fun M29 => some (v19, M29)) = some (r, wld b d1) ∧ (if bI (decide (0 ≤ x3 ∧ x3 ≤ nI g)) = 0 then some (-2, wld b d1) else if nI w = 3 then (gR (wld b d1) (b + 243) 8 0).bind fun w7 => (lA (wld b d1) 0 w7 170).bind fun v9 => (gR (wld b d1) (b + 243) 8 0).bind fun w11 => (sA (wld b d1) w11 170 x3).bind fun M13 => some (v9, M13) else (gR (wld b d1) (b + 243) 8 0).bind fun w7 => (lA (wld b d1) 0 w7 (10 * nI w + nI q)).bind fun v9 => (gR (wld b d1) (b + 243) 8 0).bind fun w11 => (sA (wld b d1) w11 (10 * nI w + nI q) x3).bind fun M13 => some (v9, M13)) = some (r, wld b d2) ∧ Iv d2 s' := by
        intro g hg1 hg2 hg3
        rw [hg2]
        by_cases c3 : 0 ≤ x3 ∧ x3 ≤ nI g
        · obtain ⟨v, hv, rfl⟩ := in_nI (n := g) (by omega) c3
          by_cases c4 : w = 3
          · subst c4
            have hM1 : M8 (du d 1 3 (nI v)) s := hM.cg (du_row _ _ _ (by omega))
            refine ⟨nI (s 170), du d 1 3 (nI v), du (du d 1 3 (nI v)) 244 170 (nI v), sU s 170 v, ?_, ?_, Iv.mk (hV.set (by omega)) (hR.sway hV) (hM1.du 170 v) hIm (fun k a => du_row _ _ _ (by omega)) (fun k a => du_row _ _ _ a)⟩
            · rw [ifb_t c3, if_pos (show nI 3 = 3 from rfl)]
              simp only [t_stg, Option.bind_some, f_sway isS_1, hR.sw, p_sway isS_1]
            · rw [ifb_t c3, if_pos (show nI 3 = 3 from rfl)]
              simp (disch := omega) only [m_st, Option.bind_some, c_170, m_s hM1, sA_f isA_m.1]
          · have hw3 : w < 3 := by omega
            have hne : ¬ nI w = 3 := fun e => c4 ((nI_eq (by omega) (by omega)).mp (e.trans c_3))
            have hM1 : M8 (du d (lSet 1 q) w (nI v)) s := hM.cg (du_row _ _ _ (by unfold lSet; omega))
            refine ⟨nI (s (10 * w + q)), du d (lSet 1 q) w (nI v), du (du d (lSet 1 q) w (nI v)) 244 (10 * w + q) (nI v), sU s (10 * w + q) v, ?_, ?_, Iv.mk (hV.set (by omega)) (hR.set hV.ln hq hw3) (hM1.du _ v) hIm (fun k a => du_row _ _ _ (by unfold lSet; omega)) (fun k a => du_row _ _ _ a)⟩
            · rw [ifb_t c3, if_neg hne]
              simp (disch := omega) only [t_stg, Option.bind_some, f_bars isS_1, f_bar isS_1, f_set isS_1, lA_f (isA_set isS_1 hq), hR.se hq hw3, sA_f (isA_set isS_1 hq)]
            · rw [ifb_t c3, if_neg hne]
              simp (disch := omega) only [m_st, Option.bind_some, c_10, pk_mul, nI_add, m_s hM1, sA_f isA_m.1]
        · exact ⟨-2, d, d, s, by rw [ifb_f c3], by rw [ifb_f c3], hJ⟩
      match w, hw with
      | 0, _ => exact fin 60 (by omega) rfl (by omega)
      | 1, _ => exact fin 40 (by omega) rfl (by omega)
      | 2, _ => exact fin 3 (by omega) rfl (by omega)
      | 3, _ => exact fin 100 (by omega) rfl (by omega)
    · exact ⟨-2, d, d, s, by rw [ifb_t c1, ifb_f c2], by rw [ifb_t c1, ifb_f c2], hJ⟩
  · exact ⟨-1, d, d, s, by rw [ifb_f c1], by rw [ifb_f c1], hJ⟩
theorem Vd.load {s : Sg} (h : Vd s) {q i v : Nat} (hq : q < 10) (hi : i < 2) (hv : v ≤ 50) (hn : s (30 + 10 * i + q) < 6) : Vd (sU (sU s (50 + 12 * q + 6 * i + s (30 + 10 * i + q)) v) (30 + 10 * i + q) (s (30 + 10 * i + q) + 1)) := by
  obtain ⟨h1, h2, h3, h4, h5, h6, h7, h8⟩ := h
  refine ⟨fun q' hq' => ?_, fun q' i' hq' hi' => ?_, fun q' i' j hq' hi' hj => ?_, ?_, ?_, fun m hm => ?_, fun m hm => ?_, fun m j hm hj => ?_⟩
  · have := h1 q' hq'
    rw [sU_ne _ _ (by omega), sU_ne _ _ (by omega), sU_ne _ _ (by omega), sU_ne _ _ (by omega), sU_ne _ _ (by omega), sU_ne _ _ (by omega)]
    exact this
  · have := h2 q' i' hq' hi'
    by_cases e : 30 + 10 * i' + q' = 30 + 10 * i + q
    · rw [e, sU_eq]; omega
    · rw [sU_ne _ _ e, sU_ne _ _ (by omega)]; exact this
  · have := h3 q' i' j hq' hi' hj
    rw [sU_ne _ _ (by omega)]
    unfold sU
    split <;> omega
  · rw [sU_ne _ _ (by omega), sU_ne _ _ (by omega)]; exact h4
  · rw [sU_ne _ _ (by omega), sU_ne _ _ (by omega)]; exact h5
  · rw [sU_ne _ _ (by omega), sU_ne _ _ (by omega), sU_ne _ _ (by omega), sU_ne _ _ (by omega), sU_ne _ _ (by omega), sU_ne _ _ (by omega), sU_ne _ _ (by omega), sU_ne _ _ (by omega)]; exact h6 m hm
  · rw [sU_ne _ _ (by omega), sU_ne _ _ (by omega)] at hm ⊢; exact h7 m hm
  · rw [sU_ne _ _ (by omega), sU_ne _ _ (by omega)] at hm hj
    rw [sU_ne _ _ (by omega), sU_ne _ _ (by omega), sU_ne _ _ (by omega), sU_ne _ _ (by omega), sU_ne _ _ (by omega), sU_ne _ _ (by omega), sU_ne _ _ (by omega), sU_ne _ _ (by omega)]
    exact h8 m j hm hj
theorem StR.load {d : Da} {p : Nat} {s : Sg} (h : StR d p s) (hV : Vd s) {q i v : Nat} (hq : q < 10) (hi : i < 2) (hn : s (30 + 10 * i + q) < 6) : StR (du (du d (lWei p q i) (s (30 + 10 * i + q)) (nI v)) (lPil p q i) 1 (nI (s (30 + 10 * i + q) + 1))) p (sU (sU s (50 + 12 * q + 6 * i + s (30 + 10 * i + q)) v) (30 + 10 * i + q) (s (30 + 10 * i + q) + 1)) := by
  have hln := hV.ln
  obtain ⟨h1, h2, h3, h4, h5, h6⟩ := h
  refine ⟨fun q' w' hq' hw' => ?_, fun q' i' hq' hi' => ?_, fun q' i' k hq' hi' hk => ?_, ?_, ?_, fun m f hm hf => ?_⟩
  · rw [du_row _ _ _ (by unfold lSet lPil; omega), du_row _ _ _ (by unfold lSet lWei; omega), sU_ne _ _ (by omega), sU_ne _ _ (by omega)]; exact h1 q' w' hq' hw'
  · by_cases e : q' = q ∧ i' = i
    · rw [e.1, e.2, du_self, sU_eq]
    · rw [du_row _ _ _ (by unfold lPil; omega), du_row _ _ _ (by unfold lPil lWei; omega), sU_ne _ _ (by omega), sU_ne _ _ (by omega)]; exact h2 q' i' hq' hi'
  · rw [du_row _ _ _ (by unfold lPil lWei; omega), sU_ne _ _ (by omega)]
    by_cases e : q' = q ∧ i' = i
    · rw [e.1, e.2] at hk ⊢
      rw [sU_eq] at hk
      by_cases e2 : k = s (30 + 10 * i + q)
      · rw [e2, du_self, sU_eq]
      · rw [du_ne _ _ _ e2, sU_ne _ _ (by omega)]
        exact h3 q i k hq hi (by omega)
    · rw [sU_ne _ _ (by omega), sU_ne _ _ (by omega)] at hk
      have h6' := hV.mn hq' hi'
      rw [du_row _ _ _ (by unfold lWei; omega), sU_ne _ _ (by omega)]
      exact h3 q' i' k hq' hi' hk
  · rw [du_row _ _ _ (by unfold lPil; omega), du_row _ _ _ (by unfold lWei; omega), sU_ne _ _ (by omega), sU_ne _ _ (by omega)]; exact h4
  · rw [du_row _ _ _ (by unfold lPil; omega), du_row _ _ _ (by unfold lWei; omega), sU_ne _ _ (by omega), sU_ne _ _ (by omega)]; exact h5
  · rw [sU_ne _ _ (by omega), sU_ne _ _ (by omega)] at hm
    rw [du_row _ _ _ (by unfold lPil lMov; omega), du_row _ _ _ (by unfold lWei lMov; omega), sU_ne _ _ (by omega), sU_ne _ _ (by omega)]; exact h6 m f hm hf
theorem q_load (hJ : Iv d s) (x1 x2 x3 : Int32) : ∃ r d1 d2 s', X7_load (wld b d) b x1 x2 x3 = some (r, wld b d1) ∧ X8_load (wld b d1) (b + 243) x1 x2 x3 = some (r, wld b d2) ∧ Iv d2 s' := by
  obtain ⟨hV, hR, hM, kb, hIm⟩ := id hJ
  unfold X7_load X8_load
  simp only [k_top, k_mod, Option.bind_some, X7_isBar_s, X8_isBar_s, X7_within_s, X8_in_s]
  by_cases c1 : 0 ≤ x1 ∧ x1 ≤ 9
  · by_cases c2 : 0 ≤ x2 ∧ x2 ≤ 1
    · by_cases c3 : 1 ≤ x3 ∧ x3 ≤ 50
      · obtain ⟨q, hq, rfl⟩ := in_nI (n := 9) (by omega) c1
        obtain ⟨i, hi, rfl⟩ := in_nI (n := 1) (by omega) c2
        obtain ⟨v, hv, rfl⟩ := in_sub (a := 1) (n := 49) (by omega) c3
        have hq : q < 10 := by omega
        have hi : i < 2 := by omega
        have h6 := hV.mn hq hi
        rw [ifb_t c1, ifb_t c2, ifb_t c3]
        simp only [ifb_t c1, ifb_t c2, ifb_t c3, t_stg, f_bars isS_1, f_bar isS_1 hq, X0_pileOf_s isS_1 hq hi, f_siz isS_1 hq hi, hR.pi hq hi, Option.bind_some]
        by_cases c4 : s (30 + 10 * i + q) < 6
        · rw [c_6, if_pos (nI_lt c4 (by omega))]
          have hM1 : M8 (du (du d (lWei 1 q i) (s (30 + 10 * i + q)) (nI (1 + v))) (lPil 1 q i) 1 (nI (s (30 + 10 * i + q) + 1))) s := hM.cg (by rw [du_row _ _ _ (by unfold lPil; omega), du_row _ _ _ (by unfold lWei; omega)])
          have hM2 := hM1.du (50 + 12 * q + 6 * i + s (30 + 10 * i + q)) (1 + v)
          have hM3 := hM2.du (30 + 10 * i + q) (s (30 + 10 * i + q) + 1)
          refine ⟨nI (s (30 + 10 * i + q) + 1), du (du d (lWei 1 q i) (s (30 + 10 * i + q)) (nI (1 + v))) (lPil 1 q i) 1 (nI (s (30 + 10 * i + q) + 1)), du (du (du (du d (lWei 1 q i) (s (30 + 10 * i + q)) (nI (1 + v))) (lPil 1 q i) 1 (nI (s (30 + 10 * i + q) + 1))) 244 (50 + 12 * q + 6 * i + s (30 + 10 * i + q)) (nI (1 + v))) 244 (30 + 10 * i + q) (nI (s (30 + 10 * i + q) + 1)), sU (sU s (50 + 12 * q + 6 * i + s (30 + 10 * i + q)) (1 + v)) (30 + 10 * i + q) (s (30 + 10 * i + q) + 1), ?_, ?_, Iv.mk (hV.load hq hi (v := 1 + v) (by omega) c4) (hR.load hV hq hi (v := 1 + v) c4) hM3 hIm (fun k a => by rw [du_row _ _ _ (by unfold lPil; omega), du_row _ _ _ (by unfold lWei; omega)]) (fun k a => by rw [du_row _ _ _ a, du_row _ _ _ a])⟩
          · unfold X5_add
            simp (disch := omega) only [k_pil isS_1 hq hi, Option.bind_some, f_wei isS_1 hq hi, f_siz isS_1 hq hi, hR.pi hq hi, sA_f (isA_wei isS_1 hq hi)]
            rw [du_row _ _ _ (by unfold lPil lWei; omega), hR.pi hq hi]
            simp only [p_siz isS_1 hq hi, Option.bind_some, nI_1, c_1, nI_add, f_siz isS_1 hq hi, du_self]
          · have e1 : ¬ nI (s (30 + 10 * i + q)) = nI 6 := fun e => by have := (nI_eq (by omega) (by omega)).mp e; omega
            simp (disch := omega) only [X8_many_s hM1 hq hi, Option.bind_some, if_neg e1, m_st, c_50, c_12, c_6, c_30, c_10, pk_mul, nI_add, sA_f isA_m.1, m_s hM2, c_1]
            rw [sU_ne _ _ (by omega)]
        · rw [c_6, if_neg (nI_nlt (by omega) (by omega))]
          refine ⟨-4, d, d, s, rfl, ?_, hJ⟩
          rw [X8_many_s hM hq hi, Option.bind_some, if_pos (show nI (s (30 + 10 * i + q)) = nI 6 by rw [show s (30 + 10 * i + q) = 6 by omega])]
      · exact ⟨-2, d, d, s, by rw [ifb_t c1, ifb_t c2, ifb_f c3], by rw [ifb_t c1, ifb_t c2, ifb_f c3], hJ⟩
    · exact ⟨-2, d, d, s, by rw [ifb_t c1, ifb_f c2], by rw [ifb_t c1, ifb_f c2], hJ⟩
  · exact ⟨-1, d, d, s, by rw [ifb_f c1], by rw [ifb_f c1], hJ⟩
end MUT
