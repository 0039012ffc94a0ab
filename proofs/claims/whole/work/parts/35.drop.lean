/-! DROP, SHIFT -/
section DROP
variable {b : Nat} {d : Da} {q r i x m n : Nat} {s : Sg}
def c4 (d : Da) (A B : Nat) : Da := fun K j => if K = A ∧ j < 4 then d B j else d K j
theorem c4_ne (d : Da) (A B : Nat) {K : Nat} (h : K ≠ A) : c4 d A B K = d K := by
  funext j
  exact if_neg (fun g => h g.1)
theorem X4_copyFrom_s {p p' m m' : Nat} (hp : isS p) (hp' : isS p') (hm : m < 10) (hm' : m' < 10) (hne : lMov p' m' ≠ lMov p m) : X4_copyFrom (wld b d) (b + lMov p m) (b + lMov p' m') = some (wld b (c4 d (lMov p m) (lMov p' m'))) := by
  unfold X4_copyFrom
  simp (disch := omega) only [k_mov hp hm, Option.bind_some, f_mv hp' hm', p_mv hp hm, du_row _ _ _ hne]
  congr 2
  funext K j
  simp only [du_at, c4]
  by_cases e : K = lMov p m
  · by_cases e3 : j = 3
    · simp [e, e3]
    · by_cases e2 : j = 2
      · simp [e, e2]
      · by_cases e1 : j = 1
        · simp [e, e1]
        · by_cases e0 : j = 0
          · simp [e, e0]
          · have : ¬ j < 4 := by omega
            simp [e, e0, e1, e2, e3, this]
  · simp [e]
/-- the moves behind the x-th go down by one -/
def drS (s : Sg) (x k : Nat) : Sg := fun a => if 171 ≤ a ∧ a < 211 ∧ x ≤ (a - 171) % 10 ∧ (a - 171) % 10 < x + k then s (a + 1) else if a = 211 then s a - 1 else s a
def riS (s : Sg) (m f : Nat) : Sg := fun a => if 171 + m ≤ a ∧ a < 171 + m + 10 * f ∧ (a - 171 - m) % 10 = 0 then s (a + 1) else s a
theorem riS_st (s : Sg) (m f : Nat) : sU (riS s m f) (171 + 10 * f + m) (riS s m f (171 + 10 * f + m + 1)) = riS s m (f + 1) := by
  funext a
  unfold riS sU
  by_cases e : a = 171 + 10 * f + m
  · rw [if_pos e, if_neg (by omega), if_pos (by omega), e]
  · rw [if_neg e]
    dsimp only
    by_cases c : 171 + m ≤ a ∧ a < 171 + m + 10 * f ∧ (a - 171 - m) % 10 = 0
    · rw [if_pos c, if_pos (by omega)]
    · rw [if_neg c, if_neg (c := 171 + m ≤ a ∧ a < 171 + m + 10 * (f + 1) ∧ (a - 171 - m) % 10 = 0) (by omega)]
theorem drS_st (s : Sg) {x k : Nat} (h : x + k < 9) : riS (drS s x k) (x + k) 4 = drS s x (k + 1) := by
  funext a
  unfold riS
  by_cases c : 171 + (x + k) ≤ a ∧ a < 171 + (x + k) + 10 * 4 ∧ (a - 171 - (x + k)) % 10 = 0
  · rw [if_pos c]
    unfold drS
    rw [if_neg (by omega), if_neg (by omega), if_pos (by omega)]
  · rw [if_neg c]
    unfold drS
    by_cases c2 : 171 ≤ a ∧ a < 211 ∧ x ≤ (a - 171) % 10 ∧ (a - 171) % 10 < x + k
    · rw [if_pos c2, if_pos (by omega)]
    · rw [if_neg c2, if_neg (c := 171 ≤ a ∧ a < 211 ∧ x ≤ (a - 171) % 10 ∧ (a - 171) % 10 < x + (k + 1)) (by omega)]
theorem drS_0 (s : Sg) (x : Nat) : drS s x 0 = sU s 211 (s 211 - 1) := by
  funext a
  unfold drS sU
  rw [if_neg (by omega)]
  by_cases e : a = 211
  · rw [if_pos e, if_pos e, e]
  · rw [if_neg e, if_neg e]
theorem drS_lo (s : Sg) (x k : Nat) {a : Nat} (h : a < 171) : drS s x k a = s a := by
  unfold drS
  rw [if_neg (by omega), if_neg (by omega)]
theorem drS_211 (s : Sg) (x k : Nat) : drS s x k 211 = s 211 - 1 := by
  unfold drS
  rw [if_neg (by omega), if_pos rfl]
theorem drS_f (s : Sg) (x k : Nat) {m f : Nat} (hm : m < 10) (hf : f < 4) : drS s x k (171 + 10 * f + m) = s (171 + 10 * f + (if x ≤ m ∧ m < x + k then m + 1 else m)) := by
  unfold drS
  by_cases c : x ≤ m ∧ m < x + k
  · rw [if_pos c, if_pos (by omega)]
    rfl
  · rw [if_neg c, if_neg (by omega), if_neg (by omega)]
theorem Vd.drp {s : Sg} (h : Vd s) {x : Nat} (hx : x < s 211) : Vd (drS s x (s 211 - 1 - x)) := by
  obtain ⟨h1, h2, h3, h4, h5, h6, h7, h8⟩ := h
  have a0 := fun m hm => drS_f s x (s 211 - 1 - x) (m := m) (f := 0) hm (by omega)
  have a1 := fun m hm => drS_f s x (s 211 - 1 - x) (m := m) (f := 1) hm (by omega)
  have a2 := fun m hm => drS_f s x (s 211 - 1 - x) (m := m) (f := 2) hm (by omega)
  have a3 := fun m hm => drS_f s x (s 211 - 1 - x) (m := m) (f := 3) hm (by omega)
  simp only [Nat.mul_zero, Nat.mul_one, Nat.add_zero, Nat.reduceMul, Nat.reduceAdd] at a0 a1 a2 a3
  refine ⟨fun q' hq' => ?_, fun q' i' hq' hi' => ?_, fun q' i' j hq' hi' hj => ?_, ?_, ?_, fun m hm => ?_, fun m hm => ?_, fun m j hm hj => ?_⟩
  · rw [drS_lo _ _ _ (by omega), drS_lo _ _ _ (by omega), drS_lo _ _ _ (by omega)]; exact h1 q' hq'
  · rw [drS_lo _ _ _ (by omega)]; exact h2 q' i' hq' hi'
  · rw [drS_lo _ _ _ (by omega)]; exact h3 q' i' j hq' hi' hj
  · rw [drS_lo _ _ _ (by omega)]; exact h4
  · rw [drS_211]; omega
  · rw [a0 m hm, a1 m hm, a2 m hm, a3 m hm]
    refine h6 _ ?_
    split <;> omega
  · rw [drS_211] at hm
    rw [a3 m (by omega)]
    refine h7 _ ?_
    split <;> omega
  · rw [drS_211] at hm hj
    rw [a0 m (by omega), a0 j (by omega), a1 m (by omega), a1 j (by omega)]
    intro g1 g2
    have := h8 _ _ (by split <;> omega) (by split <;> omega) g1 g2
    split at this <;> split at this <;> omega
def rD (d : Da) (x k : Nat) : Da := fun K j => if 64 + x ≤ K ∧ K < 64 + x + k ∧ j < 4 then d (K + 1) j else d K j
theorem rD_st (d : Da) (x k : Nat) : c4 (rD d x k) (64 + x + k) (64 + x + k + 1) = rD d x (k + 1) := by
  funext K j
  unfold c4
  by_cases e : K = 64 + x + k ∧ j < 4
  · rw [if_pos e]
    unfold rD
    rw [if_neg (by omega), if_pos (by omega), e.1]
  · rw [if_neg e]
    unfold rD
    by_cases c : 64 + x ≤ K ∧ K < 64 + x + k ∧ j < 4
    · rw [if_pos c, if_pos (by omega)]
    · rw [if_neg c, if_neg (c := 64 + x ≤ K ∧ K < 64 + x + (k + 1) ∧ j < 4) (by omega)]
theorem rD_ne (d : Da) (x k : Nat) {K : Nat} (h : K < 64 + x ∨ 64 + x + k ≤ K) : rD d x k K = d K := by
  funext j
  exact if_neg (by omega)
theorem X6_removeMove_s (hR : StR d 1 s) (hV : Vd s) (hx : x < s 211) : X6_removeMove (wld b d) (b + 1) (nI x) = some (wld b (du (rD d x (s 211 - 1 - x)) 1 2 (nI (s 211 - 1)))) := by
  have h10 := hV.ln
  unfold X6_removeMove
  simp only [k_stage isS_1, Option.bind_some, c_1, nI_add]
  rw [wl_count (fun k => (wld b (rD d x k), nI (x + 1 + k))) (s 211 - 1 - x) (wld b (rD d x (s 211 - 1 - x))) ?_ ?_ (by omega) ?_]
  · simp (disch := omega) only [Option.bind_some, f_cnt isS_1, rD_ne, hR.cn, pk_sub, p_cnt isS_1]
  · intro k hk
    have c1 : ¬ s 211 ≤ x + 1 + k := by omega
    simp (disch := omega) only [un2, X6_removeMove_b4, f_cnt isS_1, rD_ne, hR.cn, Option.bind_some, nI_leI, c1, if_false, f_movs isS_1, c_1, pk_sub, f_mov isS_1]
    rw [X4_copyFrom_s isS_1 isS_1 (by omega) (by omega) (by unfold lMov; omega), show lMov 1 (x + 1 + k - 1) = 64 + x + k by unfold lMov; omega, show lMov 1 (x + 1 + k) = 64 + x + k + 1 by unfold lMov; omega, rD_st, Option.bind_some, nI_add]
    rfl
  · have c1 : s 211 ≤ x + 1 + (s 211 - 1 - x) := by omega
    simp (disch := omega) only [un2, X6_removeMove_b4, f_cnt isS_1, rD_ne, hR.cn, Option.bind_some, nI_leI, c1, if_true]
  · congr 2
    funext K j
    unfold rD
    rw [if_neg (by omega)]
theorem X8_drop_s (hM : M8 d s) (hV : Vd s) (hx : x < s 211) : X8_drop (wld b d) (b + 243) (nI x) = some (nI (s 211 - 1), wld b (fS d (drS s x (s 211 - 1 - x)))) := by
  have h10 := hV.ln
  unfold X8_drop
  have c3 : 0 ≤ nI x ∧ nI x ≤ nI (s 211 - 1) := ⟨nI_pos' (by omega), nI_le (by omega) (by omega)⟩
  simp (disch := omega) only [k_mod, Option.bind_some, X8_isMove_s hM, ifb_t c3, m_st, c_211, m_s hM, c_1, pk_sub]
  rw [← fS_id hM, m_set (by omega), Option.bind_some]
  rw [wl_count (fun k => (wld b (fS d (drS s x k)), nI (x + k))) (s 211 - 1 - x) (wld b (fS d (drS s x (s 211 - 1 - x)))) ?_ ?_ (by omega) ?_]
  · simp (disch := omega) only [Option.bind_some, m_st, m_s (fS_M _ _), drS_211, fS_id hM]
  · intro k hk
    have c4 : ¬ s 211 - 1 ≤ x + k := by omega
    simp (disch := omega) only [un2, X8_drop_b24, m_st, c_211, Option.bind_some, m_s (fS_M _ _), drS_211, nI_leI, c4, if_false]
    rw [wl_count (fun f => (wld b (fS d (riS (drS s x k) (x + k) f)), nI (171 + 10 * f))) 4 (wld b (fS d (drS s x (k + 1)))) ?_ ?_ (by omega) ?_]
    · rw [Option.bind_some, nI_1]
      rfl
    · intro f hf
      have c5 : ¬ 201 < 171 + 10 * f := by omega
      simp (disch := omega) only [un2, X8_drop_b40, c_201, nI_ltI, c5, if_false, m_st, Option.bind_some, nI_add, c_1, m_s (fS_M _ _), m_set, riS_st, c_10]
      rfl
    · have c5 : 201 < 171 + 10 * 4 := by omega
      simp (disch := omega) only [un2, X8_drop_b40, c_201, nI_ltI, c5, if_true, drS_st]
    · have e : riS (drS s x k) (x + k) 0 = drS s x k := by
        funext a
        unfold riS
        rw [if_neg (by omega)]
      rw [e]
      rfl
  · have c4 : s 211 - 1 ≤ x + (s 211 - 1 - x) := by omega
    simp (disch := omega) only [un2, X8_drop_b24, m_st, c_211, Option.bind_some, m_s (fS_M _ _), drS_211, nI_leI, c4, if_true]
  · rw [drS_0]
    rfl
theorem StR.dr {d : Da} {s : Sg} (h : StR d 1 s) (hV : Vd s) {x : Nat} (hx : x < s 211) : StR (du (rD d x (s 211 - 1 - x)) 1 2 (nI (s 211 - 1))) 1 (drS s x (s 211 - 1 - x)) := by
  have h10 := hV.ln
  have z : ∀ K, K ≠ 1 → K < 64 → (du (rD d x (s 211 - 1 - x)) 1 2 (nI (s 211 - 1))) K = d K := fun K k1 k2 => by rw [du_row _ _ _ k1, rD_ne _ _ _ (by omega)]
  obtain ⟨h1, h2, h3, h4, h5, h6⟩ := h
  refine ⟨fun q' w' hq' hw' => ?_, fun q' i' hq' hi' => ?_, fun q' i' k hq' hi' hk => ?_, ?_, ?_, fun m f hm hf => ?_⟩
  · rw [z _ (by unfold lSet; omega) (by unfold lSet; omega), drS_lo _ _ _ (by omega)]; exact h1 q' w' hq' hw'
  · rw [z _ (by unfold lPil; omega) (by unfold lPil; omega), drS_lo _ _ _ (by omega)]; exact h2 q' i' hq' hi'
  · rw [drS_lo _ _ _ (by omega)] at hk
    have := hV.mn hq' hi'
    rw [z _ (by unfold lWei; omega) (by unfold lWei; omega), drS_lo _ _ _ (by omega)]; exact h3 q' i' k hq' hi' hk
  · rw [du_self, drS_211]
  · rw [du_ne _ _ _ (by omega), rD_ne _ _ _ (by omega), drS_lo _ _ _ (by omega)]; exact h5
  · rw [drS_211] at hm
    rw [drS_f _ _ _ (by omega) hf, du_row _ _ _ (by unfold lMov; omega)]
    unfold rD
    by_cases c : x ≤ m
    · rw [if_pos (by unfold lMov; omega), if_pos (by omega)]
      exact h6 (m + 1) f (by omega) hf
    · rw [if_neg (by unfold lMov; omega), if_neg (by omega)]
      exact h6 m f (by omega) hf
theorem X7_isMove_s (hR : StR d 1 s) (x : Int32) : X7_isMove (wld b d) b x = some (bI (decide (0 ≤ x ∧ x ≤ nI (s 211) - 1))) := by
  unfold X7_isMove
  rw [k_top, Option.bind_some, t_stg, Option.bind_some, f_cnt isS_1, Option.bind_some, hR.cn, X7_within_s, Option.bind_some, ckB_b, Option.bind_some]
theorem q_drop (hJ : Iv d s) (x1 : Int32) : ∃ r d1 d2 s', X7_drop (wld b d) b x1 = some (r, wld b d1) ∧ X8_drop (wld b d1) (b + 243) x1 = some (r, wld b d2) ∧ Iv d2 s' := by
  obtain ⟨hV, hR, hM, kb, hIm⟩ := id hJ
  have h10 := hV.ln
  by_cases c3 : 0 ≤ x1 ∧ x1 ≤ nI (s 211) - 1
  · obtain ⟨x, hx, rfl⟩ := in_m1 (by omega) c3
    have hM1 : M8 (du (rD d x (s 211 - 1 - x)) 1 2 (nI (s 211 - 1))) s := hM.cg (by rw [du_row _ _ _ (by omega), rD_ne _ _ _ (by omega)])
    refine ⟨nI (s 211 - 1), _, _, _, ?_, X8_drop_s hM1 hV hx, Iv.fS (hV.drp hx) (hR.dr hV hx) hIm (fun k a => by rw [du_row _ _ _ (by omega), rD_ne _ _ _ (by omega)])⟩
    unfold X7_drop
    simp only [k_top, Option.bind_some, X7_isMove_s hR, ifb_t c3, t_stg, X6_removeMove_s hR hV hx, f_cnt isS_1, du_self]
  · refine ⟨-1, d, d, s, ?_, ?_, hJ⟩
    · unfold X7_drop
      simp only [k_top, Option.bind_some, X7_isMove_s hR, ifb_f c3]
    · unfold X8_drop
      simp only [k_mod, Option.bind_some, X8_isMove_s hM, ifb_f c3]
theorem sh_iff {g : Nat} (hg : g ≤ 200) (x : Int32) : (-nI g ≤ x ∧ x ≤ 200 - nI g) ↔ (-200 ≤ x ∧ x ≤ 200) ∧ (0 ≤ nI g + x ∧ nI g + x ≤ 200) := by
  have e1 : (-nI g).toInt = -(g : Int) := by
    have := pk_sub_toInt (a := 0) (b := g) (by omega) (by omega)
    rw [← c_0, Int32.zero_sub] at this
    omega
  have e2 : ((200 : Int32) - nI g).toInt = 200 - (g : Int) := pk_sub_toInt (a := 200) (b := g) (by omega) (by omega)
  have e3 : (nI g + x).toInt = Int.bmod (g + x.toInt) (2 ^ 32) := by rw [Int32.toInt_add, nI_toInt (by omega)]
  have e4 : (-200 : Int32).toInt = -200 := by decide
  have e5 : (200 : Int32).toInt = 200 := by decide
  have e6 : (0 : Int32).toInt = 0 := by decide
  have b1 := x.toInt_lt
  have b2 := x.le_toInt
  simp only [Int32.le_iff_toInt_le, e1, e2, e3, e4, e5, e6, Int.bmod]
  constructor
  · intro h
    refine ⟨by omega, ?_⟩
    split <;> omega
  · intro h
    obtain ⟨h1, h2⟩ := h
    split at h2 <;> omega
theorem X8_shift_s (hM : M8 d s) (hV : Vd s) {t : Nat} (hx : x < s 211) (ht : t ≤ 200) : X8_shift_L92 (wld b d) (b + 243) (nI x) (nI t) = some (nI t, wld b (fS d (sU s (181 + x) t))) := by
  have h10 := hV.ln
  unfold X8_shift_L92
  simp (disch := omega) only [m_st, Option.bind_some, c_181, nI_add]
  rw [← fS_id hM, m_set (by omega), fS_id hM]
  rfl
theorem Vd.sh {s : Sg} (h : Vd s) {x t : Nat} (hx : x < s 211) (ht : t ≤ 200) (hu : ∀ m, m < s 211 → m ≠ x → ¬ (s (171 + m) = s (171 + x) ∧ s (181 + m) = t)) : Vd (sU s (181 + x) t) := by
  obtain ⟨h1, h2, h3, h4, h5, h6, h7, h8⟩ := h
  refine ⟨fun q' hq' => ?_, fun q' i' hq' hi' => ?_, fun q' i' j hq' hi' hj => ?_, ?_, ?_, fun m hm => ?_, fun m hm => ?_, fun m j hm hj => ?_⟩
  · rw [sU_ne _ _ (by omega), sU_ne _ _ (by omega), sU_ne _ _ (by omega)]; exact h1 q' hq'
  · rw [sU_ne _ _ (by omega)]; exact h2 q' i' hq' hi'
  · rw [sU_ne _ _ (by omega)]; exact h3 q' i' j hq' hi' hj
  · rw [sU_ne _ _ (by omega)]; exact h4
  · rw [sU_ne _ _ (by omega)]; exact h5
  · rw [sU_ne _ _ (by omega), sU_ne (k := 181 + x) (i := 191 + m) _ _ (by omega), sU_ne (k := 181 + x) (i := 201 + m) _ _ (by omega)]
    have := h6 m hm
    unfold sU
    split <;> omega
  · rw [sU_ne _ _ (by omega)] at hm
    rw [sU_ne _ _ (by omega)]; exact h7 m hm
  · rw [sU_ne _ _ (by omega)] at hm hj
    rw [sU_ne (k := 181 + x) (i := 171 + m) _ _ (by omega), sU_ne (k := 181 + x) (i := 171 + j) _ _ (by omega)]
    by_cases e : m = x
    · subst e
      rw [sU_eq]
      by_cases e' : j = m
      · intro _ _; exact e'.symm
      · rw [sU_ne _ _ (by omega)]
        exact fun g1 g2 => absurd ⟨g1.symm, g2.symm⟩ (hu j hj e')
    · rw [sU_ne (k := 181 + x) (i := 181 + m) _ _ (by omega)]
      by_cases e' : j = x
      · subst e'
        rw [sU_eq]
        exact fun g1 g2 => absurd ⟨g1, g2⟩ (hu m hm e)
      · rw [sU_ne _ _ (by omega)]
        exact h8 m j hm hj
theorem StR.sh {d : Da} {s : Sg} (h : StR d 1 s) (hV : Vd s) {x t : Nat} (hx : x < s 211) : StR (du d (lMov 1 x) 1 (nI t)) 1 (sU s (181 + x) t) := by
  have h10 := hV.ln
  have z : ∀ K, K < 64 → (du d (lMov 1 x) 1 (nI t)) K = d K := fun K k1 => by rw [du_row _ _ _ (by unfold lMov; omega)]
  obtain ⟨h1, h2, h3, h4, h5, h6⟩ := h
  refine ⟨fun q' w' hq' hw' => ?_, fun q' i' hq' hi' => ?_, fun q' i' k hq' hi' hk => ?_, ?_, ?_, fun m f hm hf => ?_⟩
  · rw [z _ (by unfold lSet; omega), sU_ne _ _ (by omega)]; exact h1 q' w' hq' hw'
  · rw [z _ (by unfold lPil; omega), sU_ne _ _ (by omega)]; exact h2 q' i' hq' hi'
  · rw [sU_ne _ _ (by omega)] at hk
    have := hV.mn hq' hi'
    rw [z _ (by unfold lWei; omega), sU_ne _ _ (by omega)]; exact h3 q' i' k hq' hi' hk
  · rw [z _ (by omega), sU_ne _ _ (by omega)]; exact h4
  · rw [z _ (by omega), sU_ne _ _ (by omega)]; exact h5
  · rw [sU_ne _ _ (by omega)] at hm
    rw [du_at]
    unfold sU
    by_cases e : m = x ∧ f = 1
    · rw [if_pos ⟨by rw [e.1], e.2⟩, if_pos (by omega)]
    · rw [if_neg (by unfold lMov; omega), if_neg (by omega)]
      exact h6 m f hm hf
theorem q_shift (hJ : Iv d s) (x1 x2 : Int32) : ∃ r d1 d2 s', X7_shift (wld b d) b x1 x2 = some (r, wld b d1) ∧ X8_shift (wld b d1) (b + 243) x1 x2 = some (r, wld b d2) ∧ Iv d2 s' := by
  obtain ⟨hV, hR, hM, kb, hIm⟩ := id hJ
  have h10 := hV.ln
  by_cases c3 : 0 ≤ x1 ∧ x1 ≤ nI (s 211) - 1
  · obtain ⟨x, hx, rfl⟩ := in_m1 (by omega) c3
    have g1 := hV.bg (m := x) (by omega)
    have g2 := hV.of (m := x) (by omega)
    have si := sh_iff g1 x2
    unfold X7_shift
    simp (disch := omega) only [k_top, Option.bind_some, X7_isMove_s hR, ifb_t c3, t_stg, f_movs isS_1, f_mov isS_1, f_mv isS_1, hR.m1 hx, hR.m0 hx, X7_within_s]
    by_cases c4 : -nI (s (181 + x)) ≤ x2 ∧ x2 ≤ 200 - nI (s (181 + x))
    · obtain ⟨c5, c6⟩ := si.mp c4
      obtain ⟨t, ht, et⟩ := in_nI (n := 200) (by omega) c6
      rw [ifb_t c4, et]
      have w : ∀ (hu : ∀ m, m < s 211 → m ≠ x → ¬ (s (171 + m) = s (171 + x) ∧ s (181 + m) = t)), M8 (du d (lMov 1 x) 1 (nI t)) s ∧ Iv (fS (du d (lMov 1 x) 1 (nI t)) (sU s (181 + x) t)) (sU s (181 + x) t) := fun hu => ⟨hM.cg (du_row _ _ _ (by unfold lMov; omega)), Iv.fS (hV.sh hx ht hu) (hR.sh hV hx) hIm (fun k a => du_row _ _ _ (by unfold lMov; omega))⟩
      have z : ∀ {d' : Da} (hM' : M8 d' s) {v : Int32}, X8_moveAt (wld b d') (b + 243) (nI (s (171 + x))) (nI t) = some v → X8_shift (wld b d') (b + 243) (nI x) x2 = if v < 0 then (X8_shift_L92 (wld b d') (b + 243) (nI x) (nI t)) else (if v = nI x then (X8_shift_L92 (wld b d') (b + 243) (nI x) (nI t)) else (some ((-5 : Int32), wld b d'))) := by
        intro d' hM' v hv
        unfold X8_shift
        simp (disch := omega) only [k_mod, Option.bind_some, X8_isMove_s hM', ifb_t c3, X8_in_s, ifb_t c5, m_st, c_181, c_171, nI_add, m_s hM', et, hv]
        rw [et] at c6
        exact ifb_t c6
      rcases at_eq (b := b) hV hR hM g2 ht with ⟨a1, a2, a3⟩ | ⟨m, a1, a2, a3, a4, a5⟩
      · obtain ⟨w1, w2⟩ := w (fun m hm _ => a3 m hm)
        refine ⟨nI t, du d (lMov 1 x) 1 (nI t), _, _, ?_, ?_, w2⟩
        · rw [a1, Option.bind_some, if_pos (show (-1 : Int32) < 0 by decide)]
          simp (disch := omega) only [p_mv isS_1, Option.bind_some]
        · have hl : la s (s (171 + x)) t (s 211) = none := by
            cases hl : la s (s (171 + x)) t (s 211) with
            | none => rfl
            | some m => exact absurd (la_some _ _ hl).2 (a3 m (la_some _ _ hl).1)
          rw [z w1 (X8_moveAt_s w1 hV g2 (by omega)), hl, if_pos (show oJ none < 0 by decide), X8_shift_s w1 hV hx ht]
      · by_cases e : m = x
        · subst e
          obtain ⟨w1, w2⟩ := w (fun m' hm' ne c => ne (hV.un hm' a1 c.1 (by omega)))
          refine ⟨nI t, du d (lMov 1 m) 1 (nI t), _, _, ?_, ?_, w2⟩
          · rw [a4, Option.bind_some, if_neg (nI_pos (by omega)), if_pos rfl]
            simp (disch := omega) only [p_mv isS_1, Option.bind_some]
          · have hl : la s (s (171 + m)) t (s 211) = some m := by
              cases hl : la s (s (171 + m)) t (s 211) with
              | none => exact absurd ⟨a2, a3⟩ (la_none _ hl m a1)
              | some m' =>
                obtain ⟨l1, l2, l3⟩ := la_some _ _ hl
                rw [hV.un l1 a1 (by omega) (by omega)]
            rw [z w1 (X8_moveAt_s w1 hV g2 (by omega)), hl, if_neg (show ¬ oJ (some m) < 0 from nI_pos (by omega)), if_pos (show oJ (some m) = nI m from rfl), X8_shift_s w1 hV hx ht]
        · have ne : ¬ nI m = nI x := fun g => e ((nI_eq (by omega) (by omega)).mp g)
          refine ⟨-5, d, d, s, ?_, ?_, hJ⟩
          · rw [a4, Option.bind_some, if_neg (nI_pos (by omega)), if_neg ne]
          · rw [z hM a5, if_neg (nI_pos (by omega)), if_neg ne]
    · refine ⟨-2, d, d, s, by rw [ifb_f c4], ?_, hJ⟩
      unfold X8_shift
      simp (disch := omega) only [k_mod, Option.bind_some, X8_isMove_s hM, ifb_t c3, X8_in_s, m_st, c_181, nI_add, m_s hM]
      by_cases c5 : -200 ≤ x2 ∧ x2 ≤ 200
      · rw [ifb_t c5, ifb_f (fun c6 => c4 (si.mpr ⟨c5, c6⟩))]
      · rw [ifb_f c5]
  · refine ⟨-1, d, d, s, ?_, ?_, hJ⟩
    · unfold X7_shift
      simp only [k_top, Option.bind_some, X7_isMove_s hR, ifb_f c3]
    · unfold X8_shift
      simp only [k_mod, Option.bind_some, X8_isMove_s hM, ifb_f c3]
end DROP
