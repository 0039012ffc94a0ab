/-! THE REFERENCE'S HANDS -/
theorem wl_scan {step : Int32 → Option (Int32 ⊕ (Unit ⊕ Unit))} (bad : Nat → Prop) (n : Nat) (hn : n < 1000) (h1 : ∀ i, i < n → bad i → step (nI i) = some (.inr (.inl ()))) (h2 : ∀ i, i < n → ¬ bad i → step (nI i) = some (.inl (nI (i + 1)))) (h3 : step (nI n) = some (.inr (.inr ()))) : ((∃ i, i < n ∧ bad i) ∧ wloop step FU (0 : Int32) = some (.inl ())) ∨ ((∀ i, i < n → ¬ bad i) ∧ wloop step FU (0 : Int32) = some (.inr ())) := by
  have key : ∀ k i, i + k = n → ∀ f, k < f → ((∃ j, i ≤ j ∧ j < n ∧ bad j) ∧ wloop step f (nI i) = some (.inl ())) ∨ ((∀ j, i ≤ j → j < n → ¬ bad j) ∧ wloop step f (nI i) = some (.inr ())) := by
    intro k
    induction k with
    | zero =>
      intro i hi f hf
      obtain ⟨f, rfl⟩ : ∃ f', f = f' + 1 := ⟨f - 1, by omega⟩
      right
      refine ⟨fun j a1 a2 => absurd a2 (by omega), wl_out ?_⟩
      rw [show i = n by omega]
      exact h3
    | succ k ih =>
      intro i hi f hf
      obtain ⟨f, rfl⟩ : ∃ f', f = f' + 1 := ⟨f - 1, by omega⟩
      by_cases c : bad i
      · left
        exact ⟨⟨i, Nat.le_refl i, by omega, c⟩, wl_out (h1 i (by omega) c)⟩
      · rcases ih (i + 1) (by omega) f (by omega) with ⟨⟨j, a1, a2, a3⟩, a4⟩ | ⟨a1, a2⟩
        · left
          exact ⟨⟨j, by omega, a2, a3⟩, by rw [wl_in (h2 i (by omega) c)]; exact a4⟩
        · right
          refine ⟨fun j b1 b2 => ?_, by rw [wl_in (h2 i (by omega) c)]; exact a2⟩
          by_cases e : j = i
          · rw [e]; exact c
          · exact a1 j (by omega) b2
  rcases key n 0 (by omega) FU (fu_lt (by omega)) with ⟨⟨j, a1, a2, a3⟩, a4⟩ | ⟨a1, a2⟩
  · exact Or.inl ⟨⟨j, a2, a3⟩, a4⟩
  · exact Or.inr ⟨fun i hi => a1 i (by omega) hi, a2⟩
/-- what the reference knows of the moves that can be done -/
def Mb (D : Da) (s : Sg) : Prop := D 243 9 = nI (ct s (s 211)) ∧ ∀ j, j < ct s (s 211) → D 250 j = nI (ab s j) ∧ D 251 j = nI (eT s (ab s j))
theorem Mb.cg {D D' : Da} {s : Sg} (h : Mb D s) (h1 : D' 243 = D 243) (h2 : D' 250 = D 250) (h3 : D' 251 = D 251) : Mb D' s := by
  unfold Mb at h ⊢
  rw [h1, h2, h3]
  exact h
section MHANDS
variable {b : Nat} {d : Da} {s : Sg}
theorem X8_layAble_s (hM : M8 d s) (hV : Vd s) : ∃ D, X8_layAble (wld b d) (b + 243) = some (wld b D) ∧ mS d D ∧ Mb D s := by
  have h10 := hV.ln
  unfold X8_layAble
  simp (disch := omega) only [k_mod, Option.bind_some, p_mdc]
  obtain ⟨e, l1, D, rfl, l2, l3, l4⟩ := wl_ex (step := un2 (X8_layAble_b7 (b + 243))) (s0 := (wld b (du d 243 9 0), (0 : Int32))) (fun m st => ∃ D, st = (wld b D, nI m) ∧ mS d D ∧ D 243 9 = nI (ct s m) ∧ ∀ j, j < ct s m → D 250 j = nI (ab s j) ∧ D 251 j = nI (eT s (ab s j))) (s 211) (fun M => ∃ D, M = wld b D ∧ mS d D ∧ D 243 9 = nI (ct s (s 211)) ∧ ∀ j, j < ct s (s 211) → D 250 j = nI (ab s j) ∧ D 251 j = nI (eT s (ab s j))) (by
      rintro m st hm ⟨D, rfl, g1, g2, g3⟩
      have c1 : ¬ s 211 ≤ m := by omega
      have hMD := hM.ms g1
      have hof := hV.of (m := m) (by omega)
      have hcl : ct s m ≤ m := cN_le (dab s) m
      cases hdm : dab s m with
      | false =>
        have hdm' : evn s (s (171 + m)) = false := hdm
        have hct : ct s (m + 1) = ct s m := by rw [ct_suc, hdm]; rfl
        refine ⟨(wld b D, nI (m + 1)), ?_, D, rfl, g1, by rw [hct]; exact g2, by rw [hct]; exact g3⟩
        simp (disch := omega) only [un2, X8_layAble_b7, m_st, c_211, Option.bind_some, m_s hMD, nI_leI, c1, if_false, c_171, nI_add, X8_isEven_s hMD hV, hdm', bI_0, if_true, nI_1]
      | true =>
        have hdm' : evn s (s (171 + m)) = true := hdm
        have hct : ct s (m + 1) = ct s m + 1 := by rw [ct_suc, hdm]; rfl
        have hab := (ab_ct hm hdm).2
        have hm1 : mS d (du D 250 (ct s m) (nI m)) := g1.tr (mS.du (by omega))
        have hM1 := hM.ms hm1
        refine ⟨(wld b (du (du (ru (du D 250 (ct s m) (nI m)) 248 301 (hI s (s (171 + m)))) 251 (ct s m) (nI (eT s m))) 243 9 (nI (ct s m + 1))), nI (m + 1)), ?_, _, rfl, ?_, ?_, fun j hj => ?_⟩
        · simp (disch := omega) only [un2, X8_layAble_b7, m_st, c_211, Option.bind_some, m_s hMD, nI_leI, c1, if_false, c_171, nI_add, X8_isEven_s hMD hV, hdm', bI_0, Bool.true_eq_false, m_ab, f_mdc, g2, sA_f isA_m.2.2.2.2.2.2.1, m_en, du_row, X8_endOf_s hM1 hV hm, sA_f isA_m.2.2.2.2.2.2.2.1, ru_ne, p_mdc, nI_1]
        · exact ((hm1.tr (mS.ru (by omega))).tr (mS.du (by omega))).tr (mS.du (by omega))
        · rw [du_self, hct]
        · refine ⟨?_, ?_⟩
          · rw [du_row _ _ _ (by omega), du_row _ _ _ (by omega), ru_ne _ _ _ (by omega)]
            by_cases e : j = ct s m
            · rw [e, hab, du_self]
            · rw [du_ne _ _ _ e]
              exact (g3 j (by omega)).1
          · rw [du_row _ _ _ (by omega)]
            by_cases e : j = ct s m
            · rw [e, hab, du_self]
            · rw [du_ne _ _ _ e, ru_ne _ _ _ (by omega), du_row _ _ _ (by omega)]
              exact (g3 j (by omega)).2) (by
      rintro st ⟨D, rfl, g1, g2, g3⟩
      have hMD := hM.ms g1
      refine ⟨wld b D, ?_, D, rfl, g1, g2, g3⟩
      simp (disch := omega) only [un2, X8_layAble_b7, m_st, c_211, Option.bind_some, m_s hMD, nI_leI, Nat.le_refl, if_true]) (by omega) ⟨_, rfl, mS.du (by omega), du_self _ _ _ _, fun j hj => absurd hj (by rw [ct_0]; omega)⟩
  exact ⟨D, by rw [l1]; rfl, l2, l3, l4⟩
theorem X8_begin_s {j : Nat} (hM : M8 d s) (hV : Vd s) (hB : Mb d s) (hj : j < ct s (s 211)) : X8_begin (wld b d) (b + 243) (nI j) = some (nI (s (181 + ab s j))) := by
  have h10 := hV.ln
  have hc := ct_le hV
  have ha := (ab_ok hj).1
  unfold X8_begin
  simp (disch := omega) only [k_mod, Option.bind_some, m_st, m_ab, lA_f isA_m.2.2.2.2.2.2.1, (hB.2 j hj).1, c_181, nI_add, m_s hM]
theorem X8_canDoBoth_s {j k : Nat} (hM : M8 d s) (hV : Vd s) (hB : Mb d s) (hj : j < ct s (s 211)) (hk : k < ct s (s 211)) : X8_canDoBoth (wld b d) (b + 243) (nI j) (nI k) = some (bI (cpm s (ab s j) (ab s k))) := by
  have h10 := hV.ln
  have hc := ct_le hV
  have a1 := (ab_ok hj).1
  have a2 := (ab_ok hk).1
  have b1 := hV.of (m := ab s j) (by omega)
  have b2 := hV.of (m := ab s k) (by omega)
  have b3 := hV.bg (m := ab s j) (by omega)
  have b4 := hV.bg (m := ab s k) (by omega)
  have b5 := eT_le hV a1
  have b6 := eT_le hV a2
  have b7 := dst_le hV a1 a2
  unfold X8_canDoBoth
  simp (disch := omega) only [k_mod, Option.bind_some, m_st, m_ab, m_en, lA_f isA_m.2.2.2.2.2.2.1, lA_f isA_m.2.2.2.2.2.2.2.1, (hB.2 j hj).1, (hB.2 k hk).1, (hB.2 j hj).2, (hB.2 k hk).2, c_171, nI_add, m_s hM, X8_size_s, iAbs_sub, X8_begin_s hM hV hB hj, X8_begin_s hM hV hB hk]
  have e : s (171 + ab s j) - s (171 + ab s k) + (s (171 + ab s k) - s (171 + ab s j)) = dst s (ab s j) (ab s k) := rfl
  rw [e]
  unfold cpm rch
  rw [dst_c s (ab s k) (ab s j)]
  by_cases c : eT s (ab s j) + dst s (ab s j) (ab s k) ≤ s (181 + ab s k)
  · rw [if_pos ((nI_sle (by omega) (by omega) (by omega)).mpr (by omega)), decide_eq_true c]; rfl
  · rw [if_neg (fun g => by have := (nI_sle (by omega) (by omega) (by omega)).mp g; omega), decide_eq_false c, Bool.false_or]
    by_cases c2 : eT s (ab s k) + dst s (ab s j) (ab s k) ≤ s (181 + ab s j)
    · rw [if_neg (fun g => by have := (nI_slt (by omega) (by omega) (by omega)).mp g; omega), decide_eq_true c2]; rfl
    · rw [if_pos ((nI_slt (by omega) (by omega) (by omega)).mpr (by omega)), decide_eq_false c2]; rfl
theorem X8_canBeOne_s {X : Nat} (hM : M8 d s) (hV : Vd s) (hB : Mb d s) (hX : X < 1024) : (oneH (cpa s) (ct s (s 211)) X ∧ X8_canBeOne (wld b d) (b + 243) (nI X) = some 1) ∨ (¬ oneH (cpa s) (ct s (s 211)) X ∧ X8_canBeOne (wld b d) (b + 243) (nI X) = some 0) := by
  have hc := ct_le hV
  unfold X8_canBeOne
  rw [k_mod, Option.bind_some]
  have inner : ∀ j, j < ct s (s 211) → ((∃ i, i < j ∧ (X.testBit j = true ∧ X.testBit i = true ∧ ¬ cpa s j i)) ∧ wloop (un1 (X8_canBeOne_b12 (wld b d) (b + 243) (nI X) (nI j))) FU (0 : Int32) = some (.inl ())) ∨ ((∀ i, i < j → ¬ (X.testBit j = true ∧ X.testBit i = true ∧ ¬ cpa s j i)) ∧ wloop (un1 (X8_canBeOne_b12 (wld b d) (b + 243) (nI X) (nI j))) FU (0 : Int32) = some (.inr ())) := by
    intro j hj
    refine wl_scan (fun i => X.testBit j = true ∧ X.testBit i = true ∧ ¬ cpa s j i) j (by omega) (fun i hi hb => ?_) (fun i hi hb => ?_) ?_
    · show X8_canBeOne_b12 (wld b d) (b + 243) (nI X) (nI j) (nI i) = _
      have c1 : ¬ j ≤ i := by omega
      have hb3 : cpm s (ab s j) (ab s i) = false := by
        cases h : cpm s (ab s j) (ab s i) with
        | false => rfl
        | true => exact absurd h hb.2.2
      simp (disch := omega) only [X8_canBeOne_b12, nI_leI, c1, if_false, X8_has_s, Option.bind_some, hb.1, hb.2.1, bI_0, Bool.true_eq_false, X8_canDoBoth_s hM hV hB hj (show i < ct s (s 211) by omega), hb3, if_true]
    · show X8_canBeOne_b12 (wld b d) (b + 243) (nI X) (nI j) (nI i) = _
      have c1 : ¬ j ≤ i := by omega
      simp (disch := omega) only [X8_canBeOne_b12, nI_leI, c1, if_false, X8_has_s, Option.bind_some, bI_0, X8_canDoBoth_s hM hV hB hj (show i < ct s (s 211) by omega), nI_1]
      cases h1 : X.testBit j with
      | false => simp
      | true =>
        cases h2 : X.testBit i with
        | false => simp
        | true =>
          cases h3 : cpm s (ab s j) (ab s i) with
          | true => simp
          | false => exact absurd ⟨h1, h2, fun g => by rw [show cpm s (ab s j) (ab s i) = true from g] at h3; cases h3⟩ hb
    · show X8_canBeOne_b12 (wld b d) (b + 243) (nI X) (nI j) (nI j) = _
      simp (disch := omega) only [X8_canBeOne_b12, nI_leI, Nat.le_refl, if_true]
  rcases wl_scan (step := un1 (X8_canBeOne_b2 (wld b d) (b + 243) (nI X))) (fun j => ∃ i, i < j ∧ (X.testBit j = true ∧ X.testBit i = true ∧ ¬ cpa s j i)) (ct s (s 211)) (by omega) (fun j hj hb => by
      show X8_canBeOne_b2 (wld b d) (b + 243) (nI X) (nI j) = _
      have c1 : ¬ ct s (s 211) ≤ j := by omega
      rcases inner j hj with ⟨_, e⟩ | ⟨g, _⟩
      · simp (disch := omega) only [X8_canBeOne_b2, f_mdc, hB.1, Option.bind_some, nI_leI, c1, if_false, e]
        rfl
      · obtain ⟨i, i1, i2⟩ := hb
        exact absurd i2 (g i i1)) (fun j hj hb => by
      show X8_canBeOne_b2 (wld b d) (b + 243) (nI X) (nI j) = _
      have c1 : ¬ ct s (s 211) ≤ j := by omega
      rcases inner j hj with ⟨g, _⟩ | ⟨_, e⟩
      · exact absurd g hb
      · simp (disch := omega) only [X8_canBeOne_b2, f_mdc, hB.1, Option.bind_some, nI_leI, c1, if_false, e]
        show some (Sum.inl (nI j + 1)) = _
        rw [nI_1]) (by
      show X8_canBeOne_b2 (wld b d) (b + 243) (nI X) (nI (ct s (s 211))) = _
      simp (disch := omega) only [X8_canBeOne_b2, f_mdc, hB.1, Option.bind_some, nI_leI, Nat.le_refl, if_true]) with ⟨⟨j, j1, i, i1, i2, i3, i4⟩, e⟩ | ⟨g, e⟩
  · right
    rw [e]
    exact ⟨fun o => i4 (o i j i1 j1 i3 i2), rfl⟩
  · left
    rw [e]
    refine ⟨fun i k hi hk b1 b2 => Classical.byContradiction (fun n => g k hk ⟨i, hi, b2, b1, n⟩), rfl⟩
theorem tb_ex (cp : Nat → Nat → Prop) (a : Nat) : ∃ tb : Nat → Nat, ∀ X, tb X ≤ a ∧ cB cp a (tb X) X ∧ ∀ L, cB cp a L X → tb X ≤ L := by
  have h : ∀ X, ∃ v, v ≤ a ∧ cB cp a v X ∧ ∀ L, cB cp a L X → v ≤ L := fun X => by
    obtain ⟨v, h1, h2⟩ := pk_least (fun L => cB cp a L X) ⟨a, cB_a X⟩
    refine ⟨v, ?_, h1, fun L hL => ?_⟩
    · exact Classical.byContradiction (fun g => h2 a (by omega) (cB_a X))
    · exact Classical.byContradiction (fun g => h2 L (by omega) hL)
  exact ⟨fun X => Classical.choose (h X), fun X => Classical.choose_spec (h X)⟩
theorem X8_layHands_s (hM : M8 d s) (hV : Vd s) : ∃ D L, X8_layHands (wld b d) (b + 243) = some (nI L, wld b D) ∧ mS d D ∧ Mb D s ∧ L ≤ ct s (s 211) ∧ Cpl (cpa s) L (ct s (s 211)) 0 z0 ∧ ∀ x, x < L → ¬ Cpl (cpa s) x (ct s (s 211)) 0 z0 := by
  have hc := ct_le hV
  have pT : 2 ^ ct s (s 211) ≤ 1024 := z_pw (n := 10) hc
  have pT0 := z_pos (ct s (s 211))
  obtain ⟨D0, e0, s0, b0⟩ := X8_layAble_s (b := b) hM hV
  obtain ⟨tb, htb⟩ := tb_ex (cpa s) (ct s (s 211))
  unfold X8_layHands
  rw [k_mod, Option.bind_some, e0, Option.bind_some, f_mdc (by omega), b0.1, Option.bind_some, z_m1 (by omega)]
  obtain ⟨M1, l1, D1, rfl, f1, g1⟩ := wl_ex (step := un2 (X8_layHands_b15 (b + 243) (nI (2 ^ ct s (s 211) - 1)))) (s0 := (wld b D0, (0 : Int32))) (fun i st => ∃ D, st = (wld b D, nI i) ∧ (∀ k, k ≠ 252 → D k = D0 k) ∧ ∀ X, X < i → (oneH (cpa s) (ct s (s 211)) X → D 252 X = 1) ∧ (¬ oneH (cpa s) (ct s (s 211)) X → D 252 X = 0)) (2 ^ ct s (s 211)) (fun M => ∃ D, M = wld b D ∧ (∀ k, k ≠ 252 → D k = D0 k) ∧ ∀ X, X < 2 ^ ct s (s 211) → (oneH (cpa s) (ct s (s 211)) X → D 252 X = 1) ∧ (¬ oneH (cpa s) (ct s (s 211)) X → D 252 X = 0)) (by
      rintro i st hi ⟨D, rfl, g1, g2⟩
      have c1 : ¬ 2 ^ ct s (s 211) - 1 < i := by omega
      have hMD : M8 D s := (hM.ms s0).cg (g1 244 (by omega))
      have hBD : Mb D s := b0.cg (g1 243 (by omega)) (g1 250 (by omega)) (g1 251 (by omega))
      have nx : ∀ v : Int32, v = 1 ∨ v = 0 → X8_canBeOne (wld b D) (b + 243) (nI i) = some v → un2 (X8_layHands_b15 (b + 243) (nI (2 ^ ct s (s 211) - 1))) (wld b D, nI i) = some (.inl (wld b (du D 252 i v), nI (i + 1))) := fun v hv e => by
        have e2 : vp_nar .boolean v = v := by rcases hv with rfl | rfl <;> decide
        simp (disch := omega) only [un2, X8_layHands_b15, nI_ltI, c1, if_false, m_on, Option.bind_some, e, sZ_f isA_m.2.2.2.2.2.2.2.2.1, e2, nI_1]
      have inv : ∀ v : Int32, ((oneH (cpa s) (ct s (s 211)) i → v = 1) ∧ (¬ oneH (cpa s) (ct s (s 211)) i → v = 0)) → ∀ X, X < i + 1 → (oneH (cpa s) (ct s (s 211)) X → du D 252 i v 252 X = 1) ∧ (¬ oneH (cpa s) (ct s (s 211)) X → du D 252 i v 252 X = 0) := fun v hv X hX => by
        by_cases e : X = i
        · rw [e, du_self]; exact hv
        · rw [du_ne _ _ _ e]; exact g2 X (by omega)
      rcases X8_canBeOne_s (b := b) (X := i) hMD hV hBD (by omega) with ⟨o, e⟩ | ⟨o, e⟩
      · exact ⟨_, nx 1 (Or.inl rfl) e, _, rfl, fun k hk => by rw [du_row _ _ _ hk, g1 k hk], inv 1 ⟨fun _ => rfl, fun g => absurd o g⟩⟩
      · exact ⟨_, nx 0 (Or.inr rfl) e, _, rfl, fun k hk => by rw [du_row _ _ _ hk, g1 k hk], inv 0 ⟨fun g => absurd g o, fun _ => rfl⟩⟩) (by
      rintro st ⟨D, rfl, g1, g2⟩
      have c1 : 2 ^ ct s (s 211) - 1 < 2 ^ ct s (s 211) := by omega
      refine ⟨wld b D, ?_, D, rfl, g1, g2⟩
      simp (disch := omega) only [un2, X8_layHands_b15, nI_ltI, c1, if_true]) (by omega) ⟨_, rfl, fun _ _ => rfl, fun X hX => absurd hX (by omega)⟩
  rw [l1, Option.bind_some, m_le, Option.bind_some, c_0, sA_f isA_m.2.2.2.2.2.2.2.2.2.1 (by omega), Option.bind_some]
  obtain ⟨M2, l2, D2, rfl, f2, g2⟩ := wl_ex (step := un2 (X8_layHands_b46 (b + 243) (nI (2 ^ ct s (s 211) - 1)))) (s0 := (wld b (du D1 253 0 (nI 0)), (1 : Int32))) (fun i st => ∃ D, st = (wld b D, nI (i + 1)) ∧ (∀ k, k ≠ 253 → D k = D1 k) ∧ ∀ X, X < i + 1 → D 253 X = nI (tb X)) (2 ^ ct s (s 211) - 1) (fun M => ∃ D, M = wld b D ∧ (∀ k, k ≠ 253 → D k = D1 k) ∧ ∀ X, X < 2 ^ ct s (s 211) → D 253 X = nI (tb X)) (by
      rintro i st hi ⟨D, rfl, k1, k2⟩
      have hX : i + 1 < 2 ^ ct s (s 211) := by omega
      have c1 : ¬ 2 ^ ct s (s 211) - 1 < i + 1 := by omega
      have q9 : D 243 9 = nI (ct s (s 211)) := by rw [k1 243 (by omega), f1 243 (by omega)]; exact b0.1
      obtain ⟨e, m1, D', rfl, m2, m3⟩ := wl_meas (step := un2 (X8_layHands_b63 (b + 243) (nI (2 ^ ct s (s 211) - 1)) (nI (i + 1)))) (fun st => ∃ y D' v, st = (wld b D', nI y) ∧ sub y (i + 1) ∧ (∀ k, k ≠ 253 → D' k = D1 k) ∧ (∀ X, X < i + 1 → D' 253 X = nI (tb X)) ∧ D' 253 (i + 1) = nI v ∧ v ≤ ct s (s 211) ∧ cB (cpa s) (ct s (s 211)) v (i + 1) ∧ ∀ Y, sub Y (i + 1) → y < Y → oneH (cpa s) (ct s (s 211)) Y → v ≤ tb ((i + 1) ^^^ Y) + 1) (fun st => st.2.toNatClampNeg) (fun M => ∃ D', M = wld b D' ∧ (∀ k, k ≠ 253 → D' k = D1 k) ∧ ∀ X, X < i + 1 + 1 → D' 253 X = nI (tb X)) (by
          rintro st ⟨y, D', v, rfl, n1, n2, n3, n4, n5, n6, n7⟩
          have yl := le_sub n1
          show (∃ st', X8_layHands_b63 (b + 243) (nI (2 ^ ct s (s 211) - 1)) (nI (i + 1)) (wld b D') (nI y) = some (.inl st') ∧ _) ∨ ∃ e, X8_layHands_b63 (b + 243) (nI (2 ^ ct s (s 211) - 1)) (nI (i + 1)) (wld b D') (nI y) = some (.inr e) ∧ _
          by_cases y0 : y = 0
          · right
            subst y0
            have ev : v = tb (i + 1) := by
              have a1 := (htb (i + 1)).2.2 v n6
              have a2 := cB_min (a := ct s (s 211)) (cp := cpa s) (tb := tb) (v := v) hX (by omega) (fun Y s1 s2 s3 => n7 Y s1 (by omega) s3) (fun Z _ => (htb Z).2.2) (tb (i + 1)) (htb (i + 1)).2.1
              omega
            refine ⟨wld b D', ?_, D', rfl, n2, fun X hX => ?_⟩
            · simp only [X8_layHands_b63]
              rfl
            · by_cases e : X = i + 1
              · rw [e, n4, ev]
              · exact n3 X (by omega)
          · left
            have c2 : ¬ nI y ≤ 0 := fun g => by have := (nI_leI (b := 0) (by omega) (by omega)).mp g; omega
            have hx := lt_xor n1 y0
            have ez : nI (i + 1) &&& (nI y ^^^ (-1 : Int32)) = nI ((i + 1) ^^^ y) := by
              rw [z_not]
              congr 1
              apply Nat.eq_of_testBit_eq
              intro k
              rw [Nat.testBit_and, x_sub n1]
              cases (i + 1).testBit k <;> rfl
            have en : (nI y - (1 : Int32)) &&& nI (i + 1) = nI ((y - 1) &&& (i + 1)) := by rw [c_1, pk_sub (by omega), z_and]
            have nl : (y - 1) &&& (i + 1) ≤ y - 1 := Nat.and_le_left
            have ns : sub ((y - 1) &&& (i + 1)) (i + 1) := fun k hk => by
              rw [Nat.testBit_and] at hk
              simp at hk
              exact hk.2
            have nx : ∀ D2 w, (∀ k, k ≠ 253 → D2 k = D1 k) → (∀ X, X < i + 1 → D2 253 X = nI (tb X)) → D2 253 (i + 1) = nI w → w ≤ v → cB (cpa s) (ct s (s 211)) w (i + 1) → (oneH (cpa s) (ct s (s 211)) y → w ≤ tb ((i + 1) ^^^ y) + 1) → ∃ st', (X8_layHands_L115 (wld b D2) (b + 243) (nI (2 ^ ct s (s 211) - 1)) (nI (i + 1)) (nI y)) = some (.inl st') ∧ (∃ y D' v, st' = (wld b D', nI y) ∧ sub y (i + 1) ∧ (∀ k, k ≠ 253 → D' k = D1 k) ∧ (∀ X, X < i + 1 → D' 253 X = nI (tb X)) ∧ D' 253 (i + 1) = nI v ∧ v ≤ ct s (s 211) ∧ cB (cpa s) (ct s (s 211)) v (i + 1) ∧ ∀ Y, sub Y (i + 1) → y < Y → oneH (cpa s) (ct s (s 211)) Y → v ≤ tb ((i + 1) ^^^ Y) + 1) ∧ st'.2.toNatClampNeg < (nI y).toNatClampNeg := by
              intro D2 w w1 w2 w3 w4 w5 w6
              refine ⟨(wld b D2, nI ((y - 1) &&& (i + 1))), ?_, ⟨_, D2, w, rfl, ns, w1, w2, w3, by omega, w5, fun Y s1 s2 s3 => ?_⟩, ?_⟩
              · unfold X8_layHands_L115
                rw [en]
              · rcases Nat.lt_trichotomy Y y with t | t | t
                · have := sub_next y (i + 1) Y n1 s1 t
                  omega
                · rw [t] at s3 ⊢
                  exact w6 s3
                · have := n7 Y s1 t s3
                  omega
              · show (nI ((y - 1) &&& (i + 1))).toNatClampNeg < (nI y).toNatClampNeg
                rw [nI_clamp (by omega), nI_clamp (by omega)]
                omega
            have hy := g1 y (by omega)
            by_cases o : oneH (cpa s) (ct s (s 211)) y
            · have d1 : D' 252 y = 1 := by rw [n2 252 (by omega)]; exact hy.1 o
              have t1 := (htb ((i + 1) ^^^ y)).1
              simp (disch := omega) only [X8_layHands_b63, if_neg c2, m_on, Option.bind_some, lZ_f isA_m.2.2.2.2.2.2.2.2.1, d1, m_le, ez, lA_f isA_m.2.2.2.2.2.2.2.2.2.1, n3, n4, nI_1, nI_leI, sA_f isA_m.2.2.2.2.2.2.2.2.2.1]
              rw [if_neg (show ¬ (1 : Int32) = 0 by decide)]
              by_cases c3 : v ≤ tb ((i + 1) ^^^ y) + 1
              · rw [if_pos c3]
                exact nx D' v n2 n3 n4 (Nat.le_refl v) n6 (fun _ => c3)
              · rw [if_neg c3]
                exact nx _ (tb ((i + 1) ^^^ y) + 1) (fun k hk => by rw [du_row _ _ _ hk]; exact n2 k hk) (fun X hX => by rw [du_ne _ _ _ (by omega)]; exact n3 X hX) (du_self _ _ _ _) (by omega) (cB_step n1 (htb _).2.1 o) (fun _ => Nat.le_refl _)
            · have d1 : D' 252 y = 0 := by rw [n2 252 (by omega)]; exact hy.2 o
              simp (disch := omega) only [X8_layHands_b63, if_neg c2, m_on, Option.bind_some, lZ_f isA_m.2.2.2.2.2.2.2.2.1, d1, if_true]
              exact nx D' v n2 n3 n4 (Nat.le_refl v) n6 (fun g => absurd g o)) FU (wld b (du D 253 (i + 1) (nI (ct s (s 211)))), nI (i + 1)) ⟨i + 1, _, ct s (s 211), rfl, fun _ h => h, fun k hk => by rw [du_row _ _ _ hk]; exact k1 k hk, fun X hX => by rw [du_ne _ _ _ (by omega)]; exact k2 X hX, du_self _ _ _ _, Nat.le_refl _, cB_a _, fun Y s1 s2 => absurd (le_sub s1) (by omega)⟩ (by
            show (nI (i + 1)).toNatClampNeg < FU
            rw [nI_clamp (by omega)]
            exact fu_lt (by omega))
      refine ⟨(wld b D', nI (i + 1 + 1)), ?_, D', rfl, m2, m3⟩
      simp (disch := omega) only [un2, X8_layHands_b46, nI_ltI, c1, if_false, m_le, Option.bind_some, f_mdc, q9, sA_f isA_m.2.2.2.2.2.2.2.2.2.1, m1, nI_1]) (by
      rintro st ⟨D, rfl, k1, k2⟩
      have c1 : 2 ^ ct s (s 211) - 1 < 2 ^ ct s (s 211) - 1 + 1 := by omega
      refine ⟨wld b D, ?_, D, rfl, k1, fun X hX => k2 X (by omega)⟩
      simp (disch := omega) only [un2, X8_layHands_b46, nI_ltI, c1, if_true]) (by omega) ⟨_, rfl, fun k hk => du_row _ _ _ hk, fun X hX => by
        have e : X = 0 := by omega
        have t0 : tb 0 = 0 := by
          have := (htb 0).2.2 0 ⟨z0, (fun k _ h => (by rw [Nat.zero_testBit] at h; cases h)), (fun i k _ _ h => (by rw [Nat.zero_testBit] at h; cases h))⟩
          omega
        rw [e, du_self, t0]⟩
  rw [l2, Option.bind_some, m_le, Option.bind_some, lA_f isA_m.2.2.2.2.2.2.2.2.2.1 (by omega), g2 _ (by omega), Option.bind_some]
  refine ⟨D2, tb (2 ^ ct s (s 211) - 1), rfl, fun k hk => ?_, b0.cg ?_ ?_ ?_, (htb _).1, (cB_full _ z0).mp (htb _).2.1, fun x hx g => ?_⟩
  · rw [f2 k (by omega), f1 k (by omega)]; exact s0 k hk
  · rw [f2 _ (by omega), f1 _ (by omega)]
  · rw [f2 _ (by omega), f1 _ (by omega)]
  · rw [f2 _ (by omega), f1 _ (by omega)]
  · have := (htb (2 ^ ct s (s 211) - 1)).2.2 x ((cB_full x z0).mpr g)
    omega
end MHANDS
