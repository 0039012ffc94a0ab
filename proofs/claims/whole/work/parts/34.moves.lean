/-! MOVE, DROP, SHIFT -/
section MOVES
variable {b : Nat} {d : Da} {q r i x m n : Nat} {s : Sg}
theorem Im.c1 {d d1 : Da} {kb : Nat} (h : Im d kb) (h1 : ∀ k, k = 0 ∨ 74 ≤ k → d1 k = d k) : Im d1 kb := h.cg (h1 0 (by omega)) (h1 245 (by omega)) (h1 246 (by omega)) (fun k a1 _ => h1 k (by omega))
theorem Iv.fS {d d1 : Da} {s' : Sg} {kb : Nat} (hV : Vd s') (hR : StR d1 1 s') (hI : Im d kb) (h1 : ∀ k, k = 0 ∨ 74 ≤ k → d1 k = d k) : Iv (fS d1 s') s' := Iv.mk hV hR (fS_M _ _) hI h1 (fun _ a => fS_ne _ _ a)
/-- both tell the same of a move that begins then -/
theorem at_eq (hV : Vd s) (hR : StR d 1 s) (hM : M8 d s) (hq : q < 10) {t : Nat} (ht : t ≤ 200) : (X6_moveAt (wld b d) (b + 1) (nI q) (nI t) = some (-1) ∧ X8_moveAt (wld b d) (b + 243) (nI q) (nI t) = some (-6) ∧ ∀ m, m < s 211 → ¬ (s (171 + m) = q ∧ s (181 + m) = t)) ∨ ∃ m, m < s 211 ∧ s (171 + m) = q ∧ s (181 + m) = t ∧ X6_moveAt (wld b d) (b + 1) (nI q) (nI t) = some (nI m) ∧ X8_moveAt (wld b d) (b + 243) (nI q) (nI t) = some (nI m) := by
  obtain ⟨o, h1, h2, h3⟩ := X6_moveAt_s (b := b) isS_1 hR hV hq ht
  rw [X8_moveAt_s hM hV hq (by omega), h1]
  cases ho : o with
  | none =>
    left
    cases hl : la s q t (s 211) with
    | none => exact ⟨rfl, rfl, h3 ho⟩
    | some m =>
      obtain ⟨l1, l2, l3⟩ := la_some _ _ hl
      exact absurd ⟨l2, l3⟩ (h3 ho m l1)
  | some m =>
    right
    obtain ⟨g1, g2, g3⟩ := h2 m ho
    refine ⟨m, g1, g2, g3, rfl, ?_⟩
    cases hl : la s q t (s 211) with
    | none => exact absurd ⟨g2, g3⟩ (la_none _ hl m g1)
    | some m' =>
      obtain ⟨l1, l2, l3⟩ := la_some _ _ hl
      rw [hV.un l1 g1 (by omega) (by omega)]
      rfl
def mS5 (s : Sg) (q t o p : Nat) : Sg := sU (sU (sU (sU (sU s (171 + s 211) q) (181 + s 211) t) (191 + s 211) o) (201 + s 211) p) 211 (s 211 + 1)
theorem mS5_at (s : Sg) (q t o p : Nat) (a : Nat) : mS5 s q t o p a = if a = 211 then s 211 + 1 else if a = 201 + s 211 then p else if a = 191 + s 211 then o else if a = 181 + s 211 then t else if a = 171 + s 211 then q else s a := rfl
theorem Vd.mv {s : Sg} (h : Vd s) {q t o p : Nat} (hq : q < 10) (ht : t ≤ 200) (ho : o ≤ 60) (hp : p ≤ 5) (hp1 : 1 ≤ p) (hn : s 211 < 10) (hu : ∀ m, m < s 211 → ¬ (s (171 + m) = q ∧ s (181 + m) = t)) : Vd (mS5 s q t o p) := by
  obtain ⟨h1, h2, h3, h4, h5, h6, h7, h8⟩ := h
  have e0 : ∀ a, a < 171 → mS5 s q t o p a = s a := fun a ha => by
    rw [mS5_at, if_neg (by omega), if_neg (by omega), if_neg (by omega), if_neg (by omega), if_neg (by omega)]
  have e1 : ∀ m f, m < 10 → f < 4 → mS5 s q t o p (171 + 10 * f + m) = if m = s 211 then (if f = 3 then p else if f = 2 then o else if f = 1 then t else q) else s (171 + 10 * f + m) := fun m f hm hf => by
    rw [mS5_at, if_neg (by omega)]
    by_cases e : m = s 211
    · rw [if_pos e]
      by_cases f3 : f = 3
      · rw [if_pos (by omega), if_pos f3]
      · rw [if_neg (by omega), if_neg f3]
        by_cases f2 : f = 2
        · rw [if_pos (by omega), if_pos f2]
        · rw [if_neg (by omega), if_neg f2]
          by_cases f1 : f = 1
          · rw [if_pos (by omega), if_pos f1]
          · rw [if_neg (by omega), if_neg f1, if_pos (by omega)]
    · rw [if_neg e, if_neg (by omega), if_neg (by omega), if_neg (by omega), if_neg (by omega)]
  have a0 := fun m hm => e1 m 0 hm (by omega)
  have a1 := fun m hm => e1 m 1 hm (by omega)
  have a2 := fun m hm => e1 m 2 hm (by omega)
  have a3 := fun m hm => e1 m 3 hm (by omega)
  simp only [Nat.mul_zero, Nat.mul_one, Nat.add_zero, Nat.reduceMul, Nat.reduceAdd, Nat.reduceEqDiff, if_true, if_false] at a0 a1 a2 a3
  have e2 : mS5 s q t o p 211 = s 211 + 1 := by rw [mS5_at, if_pos rfl]
  refine ⟨fun q' hq' => ?_, fun q' i' hq' hi' => ?_, fun q' i' j hq' hi' hj => ?_, ?_, ?_, fun m hm => ?_, fun m hm => ?_, fun m j hm hj => ?_⟩
  · rw [e0 _ (by omega), e0 _ (by omega), e0 _ (by omega)]; exact h1 q' hq'
  · rw [e0 _ (by omega)]; exact h2 q' i' hq' hi'
  · rw [e0 _ (by omega)]; exact h3 q' i' j hq' hi' hj
  · rw [e0 _ (by omega)]; exact h4
  · rw [e2]; omega
  · rw [a0 m hm, a1 m hm, a2 m hm, a3 m hm]
    have := h6 m hm
    refine ⟨?_, ?_, ?_, ?_⟩ <;> split <;> omega
  · rw [e2] at hm
    rw [a3 m (by omega)]
    by_cases e : m = s 211
    · rw [if_pos e]; exact hp1
    · rw [if_neg e]; exact h7 m (by omega)
  · rw [e2] at hm hj
    rw [a0 m (by omega), a0 j (by omega), a1 m (by omega), a1 j (by omega)]
    by_cases e : m = s 211
    · by_cases e' : j = s 211
      · intro _ _; omega
      · rw [if_pos e, if_neg e', if_pos e, if_neg e']
        exact fun g1 g2 => absurd ⟨g1.symm, g2.symm⟩ (hu j (by omega))
    · by_cases e' : j = s 211
      · rw [if_neg e, if_pos e', if_neg e, if_pos e']
        exact fun g1 g2 => absurd ⟨g1, g2⟩ (hu m (by omega))
      · rw [if_neg e, if_neg e', if_neg e, if_neg e']
        exact h8 m j (by omega) (by omega)
def mD5 (d : Da) (n q t o p : Nat) : Da := du (du (du (du (du d (lMov 1 n) 0 (nI q)) (lMov 1 n) 1 (nI t)) (lMov 1 n) 2 (nI o)) (lMov 1 n) 3 (nI p)) 1 2 (nI (n + 1))
theorem mD5_ne (d : Da) (n q t o p : Nat) {K : Nat} (h1 : K ≠ 1) (h2 : K ≠ lMov 1 n) : mD5 d n q t o p K = d K := by
  unfold mD5
  rw [du_row _ _ _ h1, du_row _ _ _ h2, du_row _ _ _ h2, du_row _ _ _ h2, du_row _ _ _ h2]
theorem StR.mv {d : Da} {s : Sg} (h : StR d 1 s) (hV : Vd s) {q t o p : Nat} (hn : s 211 < 10) : StR (mD5 d (s 211) q t o p) 1 (mS5 s q t o p) := by
  obtain ⟨h1, h2, h3, h4, h5, h6⟩ := h
  have e0 : ∀ a, a < 171 → mS5 s q t o p a = s a := fun a ha => by
    rw [mS5_at, if_neg (by omega), if_neg (by omega), if_neg (by omega), if_neg (by omega), if_neg (by omega)]
  have e2 : mS5 s q t o p 211 = s 211 + 1 := by rw [mS5_at, if_pos rfl]
  refine ⟨fun q' w' hq' hw' => ?_, fun q' i' hq' hi' => ?_, fun q' i' k hq' hi' hk => ?_, ?_, ?_, fun m f hm hf => ?_⟩
  · rw [mD5_ne _ _ _ _ _ _ (by unfold lSet; omega) (by unfold lSet lMov; omega), e0 _ (by omega)]; exact h1 q' w' hq' hw'
  · rw [mD5_ne _ _ _ _ _ _ (by unfold lPil; omega) (by unfold lPil lMov; omega), e0 _ (by omega)]; exact h2 q' i' hq' hi'
  · rw [e0 _ (by omega)] at hk
    have hk6 := hV.mn hq' hi'
    rw [mD5_ne _ _ _ _ _ _ (by unfold lWei; omega) (by unfold lWei lMov; omega)]
    rw [e0 _ (by omega)]; exact h3 q' i' k hq' hi' hk
  · unfold mD5
    rw [du_self, e2]
  · unfold mD5
    rw [du_ne _ _ _ (by omega), du_row _ _ _ (by unfold lMov; omega), du_row _ _ _ (by unfold lMov; omega), du_row _ _ _ (by unfold lMov; omega), du_row _ _ _ (by unfold lMov; omega), e0 _ (by omega)]
    exact h5
  · rw [e2] at hm
    by_cases e : m = s 211
    · subst e
      unfold mD5
      rw [du_row _ _ _ (by unfold lMov; omega)]
      match f, hf with
      | 0, _ =>
        rw [du_ne _ _ _ (by omega), du_ne _ _ _ (by omega), du_ne _ _ _ (by omega), du_self, mS5_at, if_neg (by omega), if_neg (by omega), if_neg (by omega), if_neg (by omega), if_pos (by omega)]
      | 1, _ =>
        rw [du_ne _ _ _ (by omega), du_ne _ _ _ (by omega), du_self, mS5_at, if_neg (by omega), if_neg (by omega), if_neg (by omega), if_pos (by omega)]
      | 2, _ =>
        rw [du_ne _ _ _ (by omega), du_self, mS5_at, if_neg (by omega), if_neg (by omega), if_pos (by omega)]
      | 3, _ =>
        rw [du_self, mS5_at, if_neg (by omega), if_pos (by omega)]
    · rw [mD5_ne _ _ _ _ _ _ (by unfold lMov; omega) (by unfold lMov; omega), mS5_at, if_neg (by omega), if_neg (by omega), if_neg (by omega), if_neg (by omega), if_neg (by omega)]
      exact h6 m f (by omega) hf
theorem X6_addMove_s {t o p : Nat} (hR : StR d 1 s) (hn : s 211 < 10) : X6_addMove (wld b d) (b + 1) (nI q) (nI t) (nI o) (nI p) = some (nI (s 211), wld b (mD5 d (s 211) q t o p)) := by
  unfold X6_addMove
  simp (disch := omega) only [k_stage isS_1, Option.bind_some, f_movs isS_1, f_cnt isS_1, hR.cn, f_mov isS_1, p_mv isS_1]
  rw [du_row _ _ _ (by unfold lMov; omega), du_row _ _ _ (by unfold lMov; omega), du_row _ _ _ (by unfold lMov; omega), du_row _ _ _ (by unfold lMov; omega), hR.cn]
  simp (disch := omega) only [c_1, nI_add, p_cnt isS_1, Option.bind_some, f_cnt isS_1, du_self, pk_sub]
  rw [show s 211 + 1 - 1 = s 211 by omega]
  rfl
theorem q_move (hJ : Iv d s) (x1 x2 x3 x4 : Int32) : ∃ r d1 d2 s', X7_move (wld b d) b x1 x2 x3 x4 = some (r, wld b d1) ∧ X8_move (wld b d1) (b + 243) x1 x2 x3 x4 = some (r, wld b d2) ∧ Iv d2 s' := by
  obtain ⟨hV, hR, hM, kb, hIm⟩ := id hJ
  have hln := hV.ln
  unfold X7_move X8_move
  simp only [k_top, k_mod, Option.bind_some, X7_isBar_s, X8_isBar_s, X7_within_s, X8_in_s]
  by_cases c1 : 0 ≤ x1 ∧ x1 ≤ 9
  · by_cases c2 : 0 ≤ x2 ∧ x2 ≤ 200
    · by_cases c3 : 0 ≤ x3 ∧ x3 ≤ 60
      · by_cases c4 : 1 ≤ x4 ∧ x4 ≤ 5
        · obtain ⟨q, hq, rfl⟩ := in_nI (n := 9) (by omega) c1
          obtain ⟨t, ht, rfl⟩ := in_nI (n := 200) (by omega) c2
          obtain ⟨o, ho, rfl⟩ := in_nI (n := 60) (by omega) c3
          obtain ⟨p, hp, rfl⟩ := in_sub (a := 1) (n := 4) (by omega) c4
          have hq : q < 10 := by omega
          simp only [ifb_t c1, ifb_t c2, ifb_t c3, ifb_t c4, t_stg, Option.bind_some]
          rcases at_eq (b := b) hV hR hM hq ht with ⟨g1, g2, g3⟩ | ⟨m, g1, g2, g3, g4, g5⟩
          · rw [g1]
            simp only [Option.bind_some, f_cnt isS_1, hR.cn]
            rw [if_pos (show (-1 : Int32) < 0 by decide)]
            by_cases hn : s 211 < 10
            · refine ⟨nI (s 211), mD5 d (s 211) q t o (1 + p), fS (mD5 d (s 211) q t o (1 + p)) (mS5 s q t o (1 + p)), mS5 s q t o (1 + p), ?_, ?_, Iv.fS (hV.mv hq ht ho (by omega) (by omega) hn g3) (hR.mv hV hn) hIm (fun k a => mD5_ne _ _ _ _ _ _ (by omega) (by unfold lMov; omega))⟩
              · rw [c_10, if_pos (nI_lt hn (by omega)), X6_addMove_s hR hn]
                rfl
              · have hM1 : M8 (mD5 d (s 211) q t o (1 + p)) s := hM.cg (mD5_ne _ _ _ _ _ _ (by omega) (by unfold lMov; omega))
                have hl : la s q t (s 211) = none := by
                  cases hl : la s q t (s 211) with
                  | none => rfl
                  | some m => exact absurd (la_some _ _ hl).2 (g3 m (la_some _ _ hl).1)
                rw [X8_moveAt_s hM1 hV hq (by omega), hl, Option.bind_some, if_pos (show oJ none < 0 by decide)]
                have e1 : ¬ nI (s 211) = nI 10 := fun e => by have := (nI_eq (by omega) (by omega)).mp e; omega
                simp (disch := omega) only [m_st, Option.bind_some, c_211, m_s hM1, c_10, if_neg e1, c_171, c_181, c_191, c_201, nI_add]
                rw [← fS_id hM1]
                simp (disch := omega) only [m_set, m_st, Option.bind_some, m_s (fS_M _ _), c_1, nI_add]
                rw [sU_ne _ _ (by omega), sU_ne _ _ (by omega), sU_ne _ _ (by omega), sU_ne _ _ (by omega), fS_id hM1]
                rfl
            · refine ⟨-4, d, d, s, by rw [c_10, if_neg (nI_nlt (by omega) (by omega))], ?_, hJ⟩
              rw [g2, Option.bind_some, if_pos (show (-6 : Int32) < 0 by decide)]
              simp (disch := omega) only [m_st, Option.bind_some, c_211, m_s hM, c_10]
              rw [if_pos (by rw [show s 211 = 10 by omega])]
          · refine ⟨-5, d, d, s, ?_, ?_, hJ⟩
            · rw [g4, Option.bind_some, if_neg (nI_pos (by omega))]
            · rw [g5, Option.bind_some, if_neg (nI_pos (by omega))]
        · exact ⟨-2, d, d, s, by rw [ifb_t c1, ifb_t c2, ifb_t c3, ifb_f c4], by rw [ifb_t c1, ifb_t c2, ifb_t c3, ifb_f c4], hJ⟩
      · exact ⟨-2, d, d, s, by rw [ifb_t c1, ifb_t c2, ifb_f c3], by rw [ifb_t c1, ifb_t c2, ifb_f c3], hJ⟩
    · exact ⟨-2, d, d, s, by rw [ifb_t c1, ifb_f c2], by rw [ifb_t c1, ifb_f c2], hJ⟩
  · exact ⟨-1, d, d, s, by rw [ifb_f c1], by rw [ifb_f c1], hJ⟩
end MOVES
