/-! IMAGE, RESTORE -/
theorem wl_ex {S E : Type} {step : S → Option (S ⊕ E)} (P : Nat → S → Prop) (n : Nat) (Q : E → Prop) (h1 : ∀ k st, k < n → P k st → ∃ st', step st = some (.inl st') ∧ P (k + 1) st') (h2 : ∀ st, P n st → ∃ e, step st = some (.inr e) ∧ Q e) (hn : n < 1000000000000000000) {s0 : S} (h0 : P 0 s0) : ∃ e, wloop step FU s0 = some e ∧ Q e := by
  have key : ∀ m k st, P k st → k + m = n → ∀ f, m < f → ∃ e, wloop step f st = some e ∧ Q e := by
    intro m
    induction m with
    | zero =>
      intro k st hP hk f hf
      obtain ⟨e, g1, g2⟩ := h2 st (by rw [← hk]; exact hP)
      obtain ⟨f', rfl⟩ : ∃ f', f = f' + 1 := ⟨f - 1, by omega⟩
      exact ⟨e, wl_out g1, g2⟩
    | succ m ih =>
      intro k st hP hk f hf
      obtain ⟨st', g1, g2⟩ := h1 k st (by omega) hP
      obtain ⟨f', rfl⟩ : ∃ f', f = f' + 1 := ⟨f - 1, by omega⟩
      obtain ⟨e, g3, g4⟩ := ih (k + 1) st' g2 (by omega) f' (by omega)
      exact ⟨e, by rw [wl_in g1]; exact g3, g4⟩
  exact key n 0 s0 h0 (by omega) FU (fu_lt hn)
section IMAGE
variable {b : Nat} {d : Da} {p p' q r i x m n : Nat} {s : Sg}
def c5 (d : Da) (p p' q i : Nat) : Da := fun K j => if K = lPil p q i ∧ j = 1 then d (lPil p' q i) 1 else if K = lWei p q i ∧ j < 6 then d (lWei p' q i) j else d K j
theorem c5_ne {K : Nat} (h1 : K ≠ lPil p q i) (h2 : K ≠ lWei p q i) : c5 d p p' q i K = d K := by
  funext j
  unfold c5
  rw [if_neg (fun g => h1 g.1), if_neg (fun g => h2 g.1)]
theorem c5_p : c5 d p p' q i (lPil p q i) 1 = d (lPil p' q i) 1 := if_pos ⟨rfl, rfl⟩
theorem c5_w {k : Nat} (hk : k < 6) : c5 d p p' q i (lWei p q i) k = d (lWei p' q i) k := by
  unfold c5
  rw [if_neg (fun g => absurd g.1 (by unfold lPil lWei; omega)), if_pos ⟨rfl, hk⟩]
theorem X5_copyFrom_s (hp : isS p) (hp' : isS p') (hq : q < 10) (hi : i < 2) (hne : p ≠ p') : X5_copyFrom (wld b d) (b + lPil p q i) (b + lPil p' q i) = some (wld b (c5 d p p' q i)) := by
  have z : lPil p' q i ≠ lWei p q i := by
    unfold isS at hp hp'
    unfold lPil lWei
    omega
  unfold X5_copyFrom
  simp only [k_pil hp hq hi, Option.bind_some, f_wei hp hq hi, f_wei hp' hq hi]
  rw [c_6, cpI_f (isA_wei hp' hq hi) (isA_wei hp hq hi) (by omega) (by omega)]
  simp only [Option.bind_some, f_siz hp' hq hi, p_siz hp hq hi]
  congr 2
  funext K j
  rw [du_at]
  unfold c5
  by_cases e : K = lPil p q i ∧ j = 1
  · rw [if_pos e, if_pos e]
    simp only [va_up, if_neg z]
  · rw [if_neg e, if_neg e]
    by_cases e2 : K = lWei p q i
    · subst e2
      simp only [va_up, if_true, true_and]
    · simp only [va_up, if_neg e2, e2, false_and, if_false]
def Cb (d D : Da) (p p' q : Nat) : Prop := (∀ w, w < 3 → D (lSet p q) w = d (lSet p' q) w) ∧ (∀ i, i < 2 → D (lPil p q i) 1 = d (lPil p' q i) 1) ∧ (∀ i k, i < 2 → k < 6 → D (lWei p q i) k = d (lWei p' q i) k)
theorem X0_copyFrom_s (hp : isS p) (hp' : isS p') (hq : q < 10) (hne : p ≠ p') : ∃ D, X0_copyFrom (wld b d) (b + lBar p q) (b + lBar p' q) = some (wld b D) ∧ (∀ K, ¬ (p + 3 + 6 * q ≤ K ∧ K < p + 3 + 6 * q + 6) → D K = d K) ∧ Cb d D p p' q := by
  refine ⟨c5 (c5 (va_up d (lSet p q) (fun j => if j < 3 then d (lSet p' q) j else d (lSet p q) j)) p p' q 0) p p' q 1, ?_, fun K hK => ?_, fun w hw => ?_, fun i hi => ?_, fun i k hi hk => ?_⟩
  · unfold X0_copyFrom
    simp only [k_bar hp hq, Option.bind_some, f_set hp hq, f_set hp' hq, aL_f (isA_set hp hq)]
    rw [cpI_f (isA_set hp' hq) (isA_set hp hq) (by omega) (by omega)]
    simp only [Option.bind_some, f_pcs hp hq, f_pcs hp' hq, f_brk hp hq, f_brk hp' hq, X5_copyFrom_s hp hp' hq (show 0 < 2 by omega) hne, X5_copyFrom_s hp hp' hq (show 1 < 2 by omega) hne]
  · rw [c5_ne (by unfold lPil; omega) (by unfold lWei; omega), c5_ne (by unfold lPil; omega) (by unfold lWei; omega)]
    have : K ≠ lSet p q := by unfold lSet; omega
    simp only [va_up, if_neg this]
  · rw [c5_ne (by unfold lPil lSet; omega) (by unfold lWei lSet; omega), c5_ne (by unfold lPil lSet; omega) (by unfold lWei lSet; omega)]
    simp only [va_up, if_true, if_pos hw]
  · unfold isS at hp hp'
    match i, hi with
    | 0, _ =>
      rw [c5_ne (by unfold lPil; omega) (by unfold lWei lPil; omega), c5_p]
      have : lPil p' q 0 ≠ lSet p q := by unfold lPil lSet; omega
      simp only [va_up, if_neg this]
    | 1, _ =>
      rw [c5_p, c5_ne (by unfold lPil; omega) (by unfold lWei lPil; omega)]
      have : lPil p' q 1 ≠ lSet p q := by unfold lPil lSet; omega
      simp only [va_up, if_neg this]
  · unfold isS at hp hp'
    match i, hi with
    | 0, _ =>
      rw [c5_ne (by unfold lPil lWei; omega) (by unfold lWei; omega), c5_w hk]
      have : lWei p' q 0 ≠ lSet p q := by unfold lWei lSet; omega
      simp only [va_up, if_neg this]
    | 1, _ =>
      rw [c5_w hk, c5_ne (by unfold lPil lWei; omega) (by unfold lWei; omega)]
      have : lWei p' q 1 ≠ lSet p q := by unfold lWei lSet; omega
      simp only [va_up, if_neg this]
theorem X6_copyFrom_s (hp : isS p) (hp' : isS p') (hne : p ≠ p') : ∃ D, X6_copyFrom (wld b d) (b + p) (b + p') = some (wld b D) ∧ (∀ K, ¬ (p ≤ K ∧ K < p + 73) → D K = d K) ∧ ∀ s, StR d p' s → Vd s → StR D p s := by
  have hpp : ∀ K, p' ≤ K → K < p' + 73 → ¬ (p ≤ K ∧ K < p + 73) := by
    unfold isS at hp hp'
    omega
  unfold X6_copyFrom
  rw [k_stage hp, Option.bind_some]
  obtain ⟨M1, l1, D1, rfl, d1, d2⟩ := wl_ex (step := un2 (X6_copyFrom_b2 (b + p) (b + p'))) (s0 := (wld b d, (0 : Int32))) (fun k st => ∃ D, st = (wld b D, nI k) ∧ (∀ K, ¬ (p + 3 ≤ K ∧ K < p + 3 + 6 * k) → D K = d K) ∧ ∀ q, q < k → Cb d D p p' q) 10 (fun M => ∃ D, M = wld b D ∧ (∀ K, ¬ (p + 3 ≤ K ∧ K < p + 3 + 6 * 10) → D K = d K) ∧ ∀ q, q < 10 → Cb d D p p' q) (by
      rintro k st hk ⟨D, rfl, g1, g2⟩
      obtain ⟨D', e1, e2, e3⟩ := X0_copyFrom_s (b := b) (d := D) hp hp' hk hne
      have c1 : ¬ 10 ≤ k := by omega
      refine ⟨(wld b D', nI (k + 1)), ?_, D', rfl, fun K hK => ?_, fun q hq => ?_⟩
      · simp (disch := omega) only [un2, X6_copyFrom_b2, c_10, nI_leI, c1, if_false, f_bars hp, f_bars hp', f_bar hp, f_bar hp', Option.bind_some, e1, nI_1]
      · rw [e2 K (by omega), g1 K (by omega)]
      · by_cases e : q = k
        · subst e
          obtain ⟨f1, f2, f3⟩ := e3
          refine ⟨fun w hw => ?_, fun i hi => ?_, fun i k hi hk' => ?_⟩
          · rw [f1 w hw, g1 _ (fun g => hpp (lSet p' q) (by unfold lSet; omega) (by unfold lSet; omega) (by omega))]
          · rw [f2 i hi, g1 _ (fun g => hpp (lPil p' q i) (by unfold lPil; omega) (by unfold lPil; omega) (by omega))]
          · rw [f3 i k hi hk', g1 _ (fun g => hpp (lWei p' q i) (by unfold lWei; omega) (by unfold lWei; omega) (by omega))]
        · obtain ⟨f1, f2, f3⟩ := g2 q (by omega)
          refine ⟨fun w hw => ?_, fun i hi => ?_, fun i k hi hk' => ?_⟩
          · rw [e2 _ (by unfold lSet; omega)]; exact f1 w hw
          · rw [e2 _ (by unfold lPil; omega)]; exact f2 i hi
          · rw [e2 _ (by unfold lWei; omega)]; exact f3 i k hi hk') (by
      rintro st ⟨D, rfl, g1, g2⟩
      refine ⟨wld b D, ?_, D, rfl, g1, g2⟩
      simp (disch := omega) only [un2, X6_copyFrom_b2, c_10, nI_leI, Nat.le_refl, if_true]) (by omega) ⟨d, rfl, fun _ _ => rfl, fun q hq => absurd hq (by omega)⟩
  rw [l1, Option.bind_some]
  obtain ⟨M2, l2, D2, rfl, g1, g2⟩ := wl_ex (step := un2 (X6_copyFrom_b31 (b + p) (b + p'))) (s0 := (wld b D1, (0 : Int32))) (fun k st => ∃ D, st = (wld b D, nI k) ∧ (∀ K, ¬ (p + 63 ≤ K ∧ K < p + 63 + k) → D K = D1 K) ∧ ∀ m f, m < k → f < 4 → D (lMov p m) f = d (lMov p' m) f) 10 (fun M => ∃ D, M = wld b D ∧ (∀ K, ¬ (p + 63 ≤ K ∧ K < p + 63 + 10) → D K = D1 K) ∧ ∀ m f, m < 10 → f < 4 → D (lMov p m) f = d (lMov p' m) f) (by
      rintro k st hk ⟨D, rfl, g1, g2⟩
      have c1 : ¬ 10 ≤ k := by omega
      have ne : lMov p' k ≠ lMov p k := by unfold lMov; omega
      refine ⟨(wld b (c4 D (lMov p k) (lMov p' k)), nI (k + 1)), ?_, _, rfl, fun K hK => ?_, fun m f hm hf => ?_⟩
      · simp (disch := omega) only [un2, X6_copyFrom_b31, c_10, nI_leI, c1, if_false, f_movs hp, f_movs hp', f_mov hp, f_mov hp', Option.bind_some, X4_copyFrom_s hp hp' hk hk ne, nI_1]
      · rw [c4_ne _ _ _ (by unfold lMov; omega), g1 K (by omega)]
      · by_cases e : m = k
        · subst e
          rw [show c4 D (lMov p m) (lMov p' m) (lMov p m) f = D (lMov p' m) f from if_pos ⟨rfl, hf⟩, g1 _ (fun g => hpp (lMov p' m) (by unfold lMov; omega) (by unfold lMov; omega) (by omega)), d1 _ (fun g => hpp (lMov p' m) (by unfold lMov; omega) (by unfold lMov; omega) (by omega))]
        · rw [c4_ne _ _ _ (by unfold lMov; omega)]
          exact g2 m f (by omega) hf) (by
      rintro st ⟨D, rfl, g1, g2⟩
      refine ⟨wld b D, ?_, D, rfl, g1, g2⟩
      simp (disch := omega) only [un2, X6_copyFrom_b31, c_10, nI_leI, Nat.le_refl, if_true]) (by omega) ⟨D1, rfl, fun _ _ => rfl, fun q _ hq => absurd hq (by omega)⟩
  rw [l2, Option.bind_some]
  have z1 : ∀ K, ¬ (p + 3 ≤ K ∧ K < p + 73) → D2 K = d K := fun K hK => by rw [g1 K (by omega), d1 K (by omega)]
  have z2 : D2 p' = d p' := z1 p' (fun g => hpp p' (by omega) (by omega) (by omega))
  refine ⟨du (du D2 p 2 (d p' 2)) p 3 (d p' 3), ?_, fun K hK => ?_, fun s hR hV => ?_⟩
  · simp only [f_cnt hp', p_cnt hp, f_sway hp', p_sway hp, Option.bind_some, z2]
    rw [du_row _ _ _ (Ne.symm hne), z2]
  · rw [du_row _ _ _ (by omega), du_row _ _ _ (by omega), z1 K (by omega)]
  · have h10 := hV.ln
    obtain ⟨h1, h2, h3, h4, h5, h6⟩ := hR
    refine ⟨fun q w hq hw => ?_, fun q i hq hi => ?_, fun q i k hq hi hk => ?_, ?_, ?_, fun m f hm hf => ?_⟩
    · rw [du_row _ _ _ (by unfold lSet; omega), du_row _ _ _ (by unfold lSet; omega), g1 _ (by unfold lSet; omega), (d2 q hq).1 w hw]; exact h1 q w hq hw
    · rw [du_row _ _ _ (by unfold lPil; omega), du_row _ _ _ (by unfold lPil; omega), g1 _ (by unfold lPil; omega), (d2 q hq).2.1 i hi]; exact h2 q i hq hi
    · have := hV.mn hq hi
      rw [du_row _ _ _ (by unfold lWei; omega), du_row _ _ _ (by unfold lWei; omega), g1 _ (by unfold lWei; omega), (d2 q hq).2.2 i k hi (by omega)]; exact h3 q i k hq hi hk
    · rw [du_ne _ _ _ (by omega), du_self]; exact h4
    · rw [du_self]; exact h5
    · rw [du_row _ _ _ (by unfold lMov; omega), du_row _ _ _ (by unfold lMov; omega), g2 m f (by omega) hf]; exact h6 m f hm hf
theorem kb_or : ∀ kb, kb < 4 → ∀ k, k < 2 → nI kb ||| ((1 : Int32) <<< (nI k &&& 31)) = nI (kb ||| 2 ^ k) ∧ (kb ||| 2 ^ k) < 4 ∧ ∀ j, j < 2 → (kb ||| 2 ^ k).testBit j = (kb.testBit j || decide (j = k)) := by decide
theorem kb_bit : ∀ kb, kb < 4 → ∀ k, k < 2 → ((nI kb >>> (nI k &&& 31)) &&& (1 : Int32)) = bI (kb.testBit k) := by decide
theorem q_image (hJ : Iv d s) (x1 : Int32) : ∃ r d1 d2 s', X7_image (wld b d) b x1 = some (r, wld b d1) ∧ X8_image (wld b d1) (b + 243) x1 = some (r, wld b d2) ∧ Iv d2 s' := by
  obtain ⟨hV, hR, hM, kb, k1, k2, k3⟩ := id hJ
  have h10 := hV.ln
  unfold X7_image X8_image
  simp only [k_top, k_mod, Option.bind_some, X7_within_s, X8_in_s]
  by_cases c1 : 0 ≤ x1 ∧ x1 ≤ 1
  · obtain ⟨k, hk, rfl⟩ := in_nI (n := 1) (by omega) c1
    have hk : k < 2 := by omega
    obtain ⟨D, e1, e2, e3⟩ := X6_copyFrom_s (b := b) (d := d) (isS_k hk) isS_1 (by omega)
    obtain ⟨o1, o2, o3⟩ := kb_or kb k1 k hk
    rw [ifb_t c1]
    have hM1 : M8 (du D 0 2 (nI (kb ||| 2 ^ k))) s := hM.cg (by rw [du_row _ _ _ (by omega), e2 _ (by omega)])
    refine ⟨1, du D 0 2 (nI (kb ||| 2 ^ k)), du (sg (du D 0 2 (nI (kb ||| 2 ^ k))) 245 (212 * k) 212 (fun i => nI (s i))) 246 k 1, s, ?_, ?_, hV, ?_, ?_, kb ||| 2 ^ k, o2, ?_, fun j hj => ?_⟩
    · simp only [t_img, Option.bind_some, f_img hk, t_stg, e1, f_kept, e2 0 (by omega), k2, o1, p_kept]
    · rw [ifb_t c1, wl_count (fun i => (wld b (sg (du D 0 2 (nI (kb ||| 2 ^ k))) 245 (212 * k) i (fun i => nI (s i))), nI i)) 212 (wld b (sg (du D 0 2 (nI (kb ||| 2 ^ k))) 245 (212 * k) 212 (fun i => nI (s i)))) ?_ ?_ (by omega) ?_]
      · simp (disch := omega) only [Option.bind_some, m_kp, sZ_f isA_m.2.2.1]
        rfl
      · intro i hi
        have c2 : ¬ 212 ≤ i := by omega
        simp (disch := omega) only [un2, X8_image_b14, c_212, nI_leI, c2, if_false, m_im, m_st, Option.bind_some, lA_f isA_m.1, sg_ne, hM1 i hi, pk_mul, nI_add, sA_f isA_m.2.1, nI_1]
        rw [sg_st _ _ _ _ _ rfl]
      · simp (disch := omega) only [un2, X8_image_b14, c_212, nI_leI, Nat.le_refl, if_true]
      · rw [sg_0]; rfl
    · exact hR.cg h10 (fun K a1 a2 => by rw [du_row _ _ _ (by omega), sg_ne _ _ _ _ (by omega), du_row _ _ _ (by omega), e2 _ (by omega)])
    · exact hM1.cg (by rw [du_row _ _ _ (by omega), sg_ne _ _ _ _ (by omega)])
    · rw [du_row _ _ _ (by omega), sg_ne _ _ _ _ (by omega), du_self]
    · obtain ⟨k4, k5⟩ := k3 j hj
      rw [o3 j hj]
      by_cases e : j = k
      · subst e
        refine ⟨?_, fun _ => ⟨s, hV, ?_, fun i hi => ?_⟩⟩
        · rw [du_self]; simp [bI]
        · exact (e3 s hR hV).cg h10 (fun K a1 a2 => by rw [du_row _ _ _ (by omega), sg_ne _ _ _ _ (by omega), du_row _ _ _ (by omega)])
        · rw [du_row _ _ _ (by omega), sg_in _ _ _ _ _ hi]
      · refine ⟨?_, fun hb => ?_⟩
        · rw [du_ne _ _ _ e, sg_ne _ _ _ _ (by omega), du_row _ _ _ (by omega), e2 _ (by omega), k4]
          simp [e]
        · obtain ⟨s', v', r', i'⟩ := k5 (by simpa [e] using hb)
          refine ⟨s', v', r'.cg v'.ln (fun K a1 a2 => by rw [du_row _ _ _ (by omega), sg_ne _ _ _ _ (by omega), du_row _ _ _ (by omega), e2 _ (by omega)]), fun i hi => ?_⟩
          rw [du_row _ _ _ (by omega), sg_out _ _ _ _ _ (by omega), du_row _ _ _ (by omega), e2 _ (by omega)]
          exact i' i hi
  · exact ⟨-2, d, d, s, by rw [ifb_f c1], by rw [ifb_f c1], hJ⟩
theorem q_restore (hJ : Iv d s) (x1 : Int32) : ∃ r d1 d2 s', X7_restore (wld b d) b x1 = some (r, wld b d1) ∧ X8_restore (wld b d1) (b + 243) x1 = some (r, wld b d2) ∧ Iv d2 s' := by
  obtain ⟨hV, hR, hM, kb, hIm⟩ := id hJ
  obtain ⟨k1, k2, k3⟩ := id hIm
  have h10 := hV.ln
  unfold X7_restore X8_restore
  simp only [k_top, k_mod, Option.bind_some, X7_within_s, X8_in_s]
  by_cases c1 : 0 ≤ x1 ∧ x1 ≤ 1
  · obtain ⟨k, hk, rfl⟩ := in_nI (n := 1) (by omega) c1
    have hk : k < 2 := by omega
    rw [ifb_t c1]
    simp only [f_kept, Option.bind_some, k2, kb_bit kb k1 k hk]
    obtain ⟨k4, k5⟩ := k3 k hk
    cases hb : kb.testBit k with
    | false =>
      refine ⟨-3, d, d, s, by rw [if_pos (show bI false = 0 from rfl)], ?_, hJ⟩
      rw [ifb_t c1]
      simp (disch := omega) only [m_kp, Option.bind_some, lZ_f isA_m.2.2.1, k4, hb]
      rfl
    | true =>
      obtain ⟨s', v', r', i'⟩ := k5 hb
      obtain ⟨D, e1, e2, e3⟩ := X6_copyFrom_s (b := b) (d := d) isS_1 (isS_k hk) (by omega)
      refine ⟨1, D, ru D 244 212 (fun i => nI (s' i)), s', ?_, ?_, Iv.mk v' (e3 s' r' v') (fun i hi => ru_in _ _ _ _ hi) hIm (fun K a => e2 K (by omega)) (fun K a => ru_ne _ _ _ a)⟩
      · rw [if_neg (show ¬ bI true = 0 by decide)]
        simp only [t_stg, t_img, Option.bind_some, f_img hk, e1]
      · rw [ifb_t c1]
        simp (disch := omega) only [m_kp, Option.bind_some, lZ_f isA_m.2.2.1, e2 246 (by omega), k4, hb]
        rw [if_neg (show ¬ bI true = 0 by decide), wl_count (fun i => (wld b (ru D 244 i (fun i => nI (s' i))), nI i)) 212 (wld b (ru D 244 212 (fun i => nI (s' i)))) ?_ ?_ (by omega) ?_]
        · rfl
        · intro i hi
          have c2 : ¬ 212 ≤ i := by omega
          simp (disch := omega) only [un2, X8_restore_b26, c_212, nI_leI, c2, if_false, m_im, m_st, Option.bind_some, pk_mul, nI_add, lA_f isA_m.2.1, ru_ne, e2 245 (by omega), i' i hi, sA_f isA_m.1, nI_1]
          rw [ru_st _ _ _ _ rfl]
        · simp (disch := omega) only [un2, X8_restore_b26, c_212, nI_leI, Nat.le_refl, if_true]
        · rw [ru_0]; rfl
  · exact ⟨-2, d, d, s, by rw [ifb_f c1], by rw [ifb_f c1], hJ⟩
end IMAGE
