/-! THE REFERENCE'S CREW -/
theorem wl_idx {S E : Type} {step : S → Option (S ⊕ E)} (I : Nat → S → Prop) (Q : E → Prop) (h : ∀ n st, I n st → (∃ n' st', n' < n ∧ step st = some (.inl st') ∧ I n' st') ∨ ∃ e, step st = some (.inr e) ∧ Q e) : ∀ n st, I n st → ∀ f, n < f → ∃ e, wloop step f st = some e ∧ Q e := by
  intro n
  induction n using Nat.strongRecOn with
  | _ n ih =>
    intro st hI f hf
    obtain ⟨f, rfl⟩ : ∃ f', f = f' + 1 := ⟨f - 1, by omega⟩
    rcases h n st hI with ⟨n', st', h1, h2, h3⟩ | ⟨e, h1, h2⟩
    · obtain ⟨e, g1, g2⟩ := ih n' h1 st' h3 f (by omega)
      exact ⟨e, by rw [wl_in h2]; exact g1, g2⟩
    · exact ⟨e, wl_out h1, h2⟩
theorem du_id {D : Da} {k j : Nat} {v : Int32} (h : D k j = v) : du D k j v = D := by
  funext K i
  rw [du_at]
  by_cases c : K = k ∧ i = j
  · rw [if_pos c, c.1, c.2, h]
  · rw [if_neg c]
theorem du_du (D : Da) (k j : Nat) (v w : Int32) : du (du D k j v) k j w = du D k j w := by
  funext K i
  rw [du_at, du_at, du_at]
  by_cases c : K = k ∧ i = j
  · rw [if_pos c, if_pos c]
  · rw [if_neg c, if_neg c, if_neg c]
def hN (c : Sg) : Nat → Nat
  | 0 => 0
  | j + 1 => hN c j * 12 + c j
theorem hN_le {c : Sg} : ∀ j, (∀ i, i < j → c i < 12) → hN c j + 1 ≤ 12 ^ j
  | 0, _ => Nat.le_refl 1
  | j + 1, h => by
    have ih := hN_le j (fun i hi => h i (by omega))
    have h1 := h j (by omega)
    have e : 12 ^ (j + 1) = 12 ^ j * 12 := Nat.pow_succ 12 j
    simp only [hN]
    omega
theorem hN_cg {c c' : Sg} : ∀ j, (∀ i, i < j → c i = c' i) → hN c j = hN c' j
  | 0, _ => rfl
  | j + 1, h => by
    simp only [hN]
    rw [hN_cg j (fun i hi => h i (by omega)), h j (by omega)]
theorem pw12 : ∀ n, n ≤ 11 → 12 ^ n ≤ 743008370688 := by
  intro n hn
  have e : 12 ^ n ≤ 12 ^ 11 := Nat.pow_le_pow_right (by omega) hn
  simp only [Nat.reducePow] at e
  exact e
def meS (B a : Nat) (c : Sg) (j v : Nat) : Nat := B - ((hN c j * 12 + v) * 12 ^ (a - j) * 20 + j)
section CREW
variable {b : Nat} {d : Da} {s : Sg} {L : Nat}
theorem X8_fits_s {D : Da} {j x : Nat} {c : Sg} (hM : M8 D s) (hV : Vd s) (hB : Mb D s) (hj : j < ct s (s 211)) (hc : ∀ i, i < j → D 254 i = nI (c i) ∧ c i < 20) (hx : D 254 j = nI x) (hx2 : x < 20) : ((∀ i, i < j → c i = x → cpa s j i) ∧ X8_fits (wld b D) (b + 243) (nI j) = some 1) ∨ ((∃ i, i < j ∧ c i = x ∧ ¬ cpa s j i) ∧ X8_fits (wld b D) (b + 243) (nI j) = some 0) := by
  have h10 := ct_le hV
  unfold X8_fits
  rw [k_mod, Option.bind_some]
  rcases wl_scan (step := un1 (X8_fits_b2 (wld b D) (b + 243) (nI j))) (fun i => c i = x ∧ ¬ cpa s j i) j (by omega) (fun i hi hb => by
      show X8_fits_b2 (wld b D) (b + 243) (nI j) (nI i) = _
      have c1 : ¬ j ≤ i := by omega
      obtain ⟨h1, h2⟩ := hc i hi
      have hb3 : cpm s (ab s j) (ab s i) = false := by
        cases h : cpm s (ab s j) (ab s i) with
        | false => rfl
        | true => exact absurd h hb.2
      simp (disch := omega) only [X8_fits_b2, nI_leI, c1, if_false, m_ha, Option.bind_some, lA_f isA_m.2.2.2.2.2.2.2.2.2.2, h1, hx, nI_eq, hb.1, if_true, X8_canDoBoth_s hM hV hB hj (show i < ct s (s 211) by omega), hb3, bI_0]) (fun i hi hb => by
      show X8_fits_b2 (wld b D) (b + 243) (nI j) (nI i) = _
      have c1 : ¬ j ≤ i := by omega
      obtain ⟨h1, h2⟩ := hc i hi
      simp (disch := omega) only [X8_fits_b2, nI_leI, c1, if_false, m_ha, Option.bind_some, lA_f isA_m.2.2.2.2.2.2.2.2.2.2, h1, hx, nI_eq, X8_canDoBoth_s hM hV hB hj (show i < ct s (s 211) by omega), bI_0, nI_1]
      by_cases e : c i = x
      · rw [if_pos e]
        cases h3 : cpm s (ab s j) (ab s i) with
        | true => simp
        | false => exact absurd ⟨e, fun g => by rw [show cpm s (ab s j) (ab s i) = true from g] at h3; cases h3⟩ hb
      · rw [if_neg e]) (by
      show X8_fits_b2 (wld b D) (b + 243) (nI j) (nI j) = _
      simp (disch := omega) only [X8_fits_b2, nI_leI, Nat.le_refl, if_true]) with ⟨⟨i, i1, i2, i3⟩, e⟩ | ⟨g, e⟩
  · right
    rw [e]
    exact ⟨⟨i, i1, i2, i3⟩, rfl⟩
  · left
    rw [e]
    exact ⟨fun i hi hc => Classical.byContradiction (fun n => g i hi ⟨hc, n⟩), rfl⟩
theorem cw52 {j : Nat} {c : Sg} (hV : Vd s) (hL : L ≤ 10) (hj : j < ct s (s 211)) : ∀ k v D, v + k = L → M8 D s → Mb D s → (∀ i, i < j → D 254 i = nI (c i) ∧ c i < 20) → D 254 j = nI v → ∀ f, k < f → ∃ v', v ≤ v' ∧ v' ≤ L ∧ (v' < L → ∀ i, i < j → c i = v' → cpa s j i) ∧ (∀ x, v ≤ x → x < v' → ∃ i, i < j ∧ c i = x ∧ ¬ cpa s j i) ∧ wloop (un1 (X8_layCrew_b52 (b + 243) (nI L) (nI j))) f (wld b D) = some (wld b (du D 254 j (nI v')))
  | 0, v, D, hk, hM, hB, hc, hx, f, hf => by
    have h10 := ct_le hV
    obtain ⟨f, rfl⟩ : ∃ f', f = f' + 1 := ⟨f - 1, by omega⟩
    refine ⟨v, Nat.le_refl v, by omega, fun g => absurd g (by omega), fun x a1 a2 => absurd a2 (by omega), wl_out ?_⟩
    show X8_layCrew_b52 (b + 243) (nI L) (nI j) (wld b D) = _
    have c1 : L ≤ v := by omega
    simp (disch := omega) only [X8_layCrew_b52, m_ha, Option.bind_some, lA_f isA_m.2.2.2.2.2.2.2.2.2.2, hx, nI_leI, c1, if_true]
    rw [du_id hx]
  | k + 1, v, D, hk, hM, hB, hc, hx, f, hf => by
    have h10 := ct_le hV
    obtain ⟨f, rfl⟩ : ∃ f', f = f' + 1 := ⟨f - 1, by omega⟩
    have c1 : ¬ L ≤ v := by omega
    rcases X8_fits_s (b := b) hM hV hB hj hc hx (by omega) with ⟨g, e⟩ | ⟨g, e⟩
    · refine ⟨v, Nat.le_refl v, by omega, fun _ => g, fun x a1 a2 => absurd a2 (by omega), wl_out ?_⟩
      show X8_layCrew_b52 (b + 243) (nI L) (nI j) (wld b D) = _
      simp (disch := omega) only [X8_layCrew_b52, m_ha, Option.bind_some, lA_f isA_m.2.2.2.2.2.2.2.2.2.2, hx, nI_leI, c1, if_false, e]
      rw [if_neg (show ¬ (1 : Int32) = 0 by decide), du_id hx]
    · have st : un1 (X8_layCrew_b52 (b + 243) (nI L) (nI j)) (wld b D) = some (.inl (wld b (du D 254 j (nI (v + 1))))) := by
        show X8_layCrew_b52 (b + 243) (nI L) (nI j) (wld b D) = _
        simp (disch := omega) only [X8_layCrew_b52, m_ha, Option.bind_some, lA_f isA_m.2.2.2.2.2.2.2.2.2.2, hx, nI_leI, c1, if_false, e, if_true, nI_1, sA_f isA_m.2.2.2.2.2.2.2.2.2.2]
      obtain ⟨v', w1, w2, w3, w4, w5⟩ := cw52 (c := c) hV hL hj k (v + 1) (du D 254 j (nI (v + 1))) (by omega) (hM.cg (du_row _ _ _ (by omega))) (hB.cg (du_row _ _ _ (by omega)) (du_row _ _ _ (by omega)) (du_row _ _ _ (by omega))) (fun i hi => by rw [du_ne _ _ _ (by omega)]; exact hc i hi) (du_self _ _ _ _) f (by omega)
      refine ⟨v', by omega, w2, w3, fun x a1 a2 => ?_, ?_⟩
      · by_cases e : x = v
        · rw [e]; exact g
        · exact w4 x (by omega) a2
      · rw [wl_in st, w5, du_du]
def CI (b : Nat) (s : Sg) (D0 : Da) (L B n : Nat) (st : Wo × Int32) : Prop := ∃ j c v D, st = (wld b D, nI j) ∧ j ≤ ct s (s 211) ∧ (∀ k, k ≠ 254 → D k = D0 k) ∧ (∀ i, i < j → D 254 i = nI (c i)) ∧ (j < ct s (s 211) → D 254 j = nI v - 1) ∧ (∀ i, j < i → i < ct s (s 211) → D 254 i = -1) ∧ (∀ i, i < j → c i < L) ∧ (∀ i k, i < k → k < j → c i = c k → cpa s k i) ∧ (∀ i, i < j → ∀ h, h < c i → ¬ Cpl (cpa s) L (ct s (s 211)) (i + 1) (sU c i h)) ∧ v ≤ L ∧ (∀ h, h < v → ¬ Cpl (cpa s) L (ct s (s 211)) (j + 1) (sU c j h)) ∧ n = meS B (ct s (s 211)) c j v
def CQ (b : Nat) (s : Sg) (D0 : Da) (L : Nat) (M : Wo) : Prop := ∃ D c, M = wld b D ∧ (∀ k, k ≠ 254 → D k = D0 k) ∧ (∀ i, i < ct s (s 211) → D 254 i = nI (c i)) ∧ LF (cpa s) L (ct s (s 211)) c
theorem crew_step {D0 : Da} {B : Nat} (hB : B = 15000000000000) (hM0 : M8 D0 s) (hV : Vd s) (b0 : Mb D0 s) (hL : L ≤ ct s (s 211)) (hC : Cpl (cpa s) L (ct s (s 211)) 0 z0) : ∀ n st, CI b s D0 L B n st → (∃ n' st', n' < n ∧ un2 (X8_layCrew_b30 (b + 243) (nI L)) st = some (.inl st') ∧ CI b s D0 L B n' st') ∨ ∃ e, un2 (X8_layCrew_b30 (b + 243) (nI L)) st = some (.inr e) ∧ CQ b s D0 L e := by
  have h10 := ct_le hV
  have pw := pw12
  rintro n st ⟨j, c, v, D, rfl, hj, k1, k2, k3, k4, k5, k6, k7, k8, k9, hn⟩
  have q9 : D 243 9 = nI (ct s (s 211)) := by rw [k1 243 (by omega)]; exact b0.1
  show (∃ n' st', n' < n ∧ X8_layCrew_b30 (b + 243) (nI L) (wld b D) (nI j) = some (.inl st') ∧ _) ∨ ∃ e, X8_layCrew_b30 (b + 243) (nI L) (wld b D) (nI j) = some (.inr e) ∧ _
  by_cases c1 : j < ct s (s 211)
  · left
    have c2 : ¬ ct s (s 211) ≤ j := by omega
    have hMD : M8 (du D 254 j (nI v)) s := hM0.cg (by rw [du_row _ _ _ (by omega), k1 244 (by omega)])
    have hBD : Mb (du D 254 j (nI v)) s := b0.cg (by rw [du_row _ _ _ (by omega), k1 243 (by omega)]) (by rw [du_row _ _ _ (by omega), k1 250 (by omega)]) (by rw [du_row _ _ _ (by omega), k1 251 (by omega)])
    obtain ⟨v', w1, w2, w3, w4, w5⟩ := cw52 (b := b) (c := c) (L := L) hV (by omega) c1 (L - v) v (du D 254 j (nI v)) (by omega) hMD hBD (fun i hi => ⟨by rw [du_ne _ _ _ (by omega)]; exact k2 i hi, by have := k5 i hi; omega⟩) (du_self _ _ _ _) FU (fu_lt (by omega))
    rw [du_du] at w5
    have eS : X8_layCrew_b30 (b + 243) (nI L) (wld b D) (nI j) = X8_layCrew_L83 (wld b (du D 254 j (nI v'))) (b + 243) (nI L) (nI j) := by
      simp (disch := omega) only [X8_layCrew_b30, f_mdc, q9, Option.bind_some, nI_leI, c2, if_false, nI_pos, m_ha, lA_f isA_m.2.2.2.2.2.2.2.2.2.2, k3 c1, Int32.sub_add_cancel, sA_f isA_m.2.2.2.2.2.2.2.2.2.2, w5]
    have nof : ∀ x, x < v' → ¬ Cpl (cpa s) L (ct s (s 211)) (j + 1) (sU c j x) := fun x hx => by
      by_cases e : x < v
      · exact k9 x e
      · obtain ⟨i, i1, i2, i3⟩ := w4 x (by omega) hx
        exact nC_conf c1 i1 i2 i3
    have hP := z_pos 0
    have hw : 0 < 12 ^ (ct s (s 211) - j) := Nat.pow_pos (by omega)
    have hh := hN_le (c := c) j (fun i hi => by have := k5 i hi; omega)
    have pe : 12 ^ j * 12 ^ (ct s (s 211) - j) = 12 ^ ct s (s 211) := by rw [← Nat.pow_add, show j + (ct s (s 211) - j) = ct s (s 211) by omega]
    have pb := pw (ct s (s 211)) (by omega)
    have bd : (hN c j * 12 + 12) * 12 ^ (ct s (s 211) - j) ≤ 743008370688 := by
      have a1 : (hN c j + 1) * 12 ^ (ct s (s 211) - j) ≤ 12 ^ j * 12 ^ (ct s (s 211) - j) := Nat.mul_le_mul_right _ hh
      have a2 : (hN c j * 12 + 12) * 12 ^ (ct s (s 211) - j) = (hN c j + 1) * 12 ^ (ct s (s 211) - j) * 12 := by rw [show hN c j * 12 + 12 = (hN c j + 1) * 12 by omega, Nat.mul_right_comm]
      have a3 : 12 ^ (ct s (s 211)) * 12 ≤ 743008370688 := by rw [← Nat.pow_succ]; exact pw _ (by omega)
      omega
    rw [eS]
    by_cases c3 : v' < L
    · have c4 : ¬ L ≤ v' := by omega
      have e83 : X8_layCrew_L83 (wld b (du D 254 j (nI v'))) (b + 243) (nI L) (nI j) = some (.inl (wld b (du D 254 j (nI v')), nI (j + 1))) := by
        simp (disch := omega) only [X8_layCrew_L83, m_ha, Option.bind_some, lA_f isA_m.2.2.2.2.2.2.2.2.2.2, du_self, nI_leI, c4, if_false, nI_1]
      have hcg : ∀ i, i < j → sU c j v' i = c i := fun i hi => sU_ne _ _ (by omega)
      have eN : hN (sU c j v') (j + 1) = hN c j * 12 + v' := by
        simp only [hN]
        rw [hN_cg j hcg, sU_eq]
      refine ⟨_, _, ?_, e83, j + 1, sU c j v', 0, du D 254 j (nI v'), rfl, by omega, fun k hk => by rw [du_row _ _ _ hk]; exact k1 k hk, fun i hi => ?_, fun hi => ?_, fun i hi1 hi2 => ?_, fun i hi => ?_, fun i k hi hk he => ?_, fun i hi h hlt => ?_, by omega, fun h hlt => absurd hlt (by omega), rfl⟩
      · rw [hn]
        unfold meS
        rw [eN]
        have p1 : 12 ^ (ct s (s 211) - j) = 12 ^ (ct s (s 211) - (j + 1)) * 12 := by rw [← Nat.pow_succ]; congr 1; omega
        have p2 : ((hN c j * 12 + v') * 12 + 0) * 12 ^ (ct s (s 211) - (j + 1)) = (hN c j * 12 + v') * 12 ^ (ct s (s 211) - j) := by rw [p1, Nat.add_zero, Nat.mul_assoc, Nat.mul_comm 12]
        have p3 : (hN c j * 12 + v) * 12 ^ (ct s (s 211) - j) ≤ (hN c j * 12 + v') * 12 ^ (ct s (s 211) - j) := Nat.mul_le_mul_right _ (by omega)
        have p4 : (hN c j * 12 + v') * 12 ^ (ct s (s 211) - j) ≤ (hN c j * 12 + 12) * 12 ^ (ct s (s 211) - j) := Nat.mul_le_mul_right _ (by omega)
        rw [p2]
        omega
      · by_cases e : i = j
        · rw [e, du_self, sU_eq]
        · rw [du_ne _ _ _ e, sU_ne _ _ e]; exact k2 i (by omega)
      · rw [du_ne _ _ _ (by omega)]
        exact (k4 (j + 1) (by omega) hi).trans (by decide)
      · rw [du_ne _ _ _ (by omega)]; exact k4 i (by omega) hi2
      · by_cases e : i = j
        · rw [e, sU_eq]; exact c3
        · rw [sU_ne _ _ e]; exact k5 i (by omega)
      · rw [sU_ne _ _ (by omega)] at he
        by_cases e : k = j
        · rw [e, sU_eq] at he
          rw [e]
          exact w3 c3 i (by omega) he
        · rw [sU_ne _ _ e] at he
          exact k6 i k hi (by omega) he
      · by_cases e : i = j
        · rw [e, sU_eq] at hlt
          rw [e]
          refine fun g => nof h hlt (g.cg (fun k hk => ?_))
          by_cases e' : k = j
          · rw [e', sU_eq, sU_eq]
          · rw [sU_ne _ _ e', sU_ne _ _ e', sU_ne _ _ e']
        · rw [sU_ne _ _ e] at hlt
          refine fun g => k7 i (by omega) h hlt (g.cg (fun k hk => ?_))
          by_cases e' : k = i
          · rw [e', sU_eq, sU_eq]
          · rw [sU_ne _ _ e', sU_ne _ _ e', sU_ne _ _ (by omega)]
    · have c4 : L ≤ v' := by omega
      have nC : ¬ Cpl (cpa s) L (ct s (s 211)) j c := nC_all c1 (fun x hx => nof x (by omega))
      cases j with
      | zero => exact absurd (hC.cg (fun k hk => absurd hk (by omega))) nC
      | succ i0 =>
        have ei : nI (i0 + 1) + (-1) = nI i0 := by
          have : nI (i0 + 1) + (-1) = nI (i0 + 1) - nI 1 := by rw [Int32.sub_eq_add_neg]; rfl
          rw [this, pk_sub (by omega)]
          rfl
        have e83 : X8_layCrew_L83 (wld b (du D 254 (i0 + 1) (nI v'))) (b + 243) (nI L) (nI (i0 + 1)) = some (.inl (wld b (du D 254 (i0 + 1) (-1)), nI i0)) := by
          simp (disch := omega) only [X8_layCrew_L83, m_ha, Option.bind_some, lA_f isA_m.2.2.2.2.2.2.2.2.2.2, du_self, nI_leI, c4, if_true, sA_f isA_m.2.2.2.2.2.2.2.2.2.2, ei, du_du]
        have b5 := k5 i0 (by omega)
        refine ⟨_, _, ?_, e83, i0, c, c i0 + 1, du D 254 (i0 + 1) (-1), rfl, by omega, fun k hk => by rw [du_row _ _ _ hk]; exact k1 k hk, fun i hi => ?_, fun hi => ?_, fun i hi1 hi2 => ?_, fun i hi => k5 i (by omega), fun i k hi hk he => k6 i k hi (by omega) he, fun i hi => k7 i (by omega), by omega, fun h hlt => ?_, rfl⟩
        · rw [hn]
          unfold meS
          have p1 : 12 ^ (ct s (s 211) - i0) = 12 ^ (ct s (s 211) - (i0 + 1)) * 12 := by rw [← Nat.pow_succ]; congr 1; omega
          have p2 : (hN c i0 * 12 + (c i0 + 1)) * 12 ^ (ct s (s 211) - i0) = (hN c (i0 + 1) * 12 + 12) * 12 ^ (ct s (s 211) - (i0 + 1)) := by
            rw [p1, show hN c (i0 + 1) * 12 + 12 = (hN c i0 * 12 + (c i0 + 1)) * 12 by simp only [hN]; omega, Nat.mul_assoc, Nat.mul_comm 12]
          have p3 : (hN c (i0 + 1) * 12 + v + 1) * 12 ^ (ct s (s 211) - (i0 + 1)) ≤ (hN c (i0 + 1) * 12 + 12) * 12 ^ (ct s (s 211) - (i0 + 1)) := Nat.mul_le_mul_right _ (by omega)
          rw [Nat.add_mul, Nat.one_mul] at p3
          rw [p2]
          omega
        · rw [du_ne _ _ _ (by omega)]; exact k2 i (by omega)
        · rw [du_ne _ _ _ (by omega), k2 i0 (by omega), c_1, pk_sub (by omega)]
          rfl
        · by_cases e : i = i0 + 1
          · rw [e, du_self]
          · rw [du_ne _ _ _ e]; exact k4 i (by omega) hi2
        · by_cases e : h = c i0
          · refine fun g => nC (g.cg (fun k hk => ?_))
            by_cases e' : k = i0
            · rw [e', sU_eq, e]
            · rw [sU_ne _ _ e']
          · exact k7 i0 (by omega) h (by omega)
  · right
    have e : j = ct s (s 211) := by omega
    subst e
    refine ⟨wld b D, ?_, D, c, rfl, k1, k2, ⟨⟨k5, k6⟩, k7⟩⟩
    simp (disch := omega) only [X8_layCrew_b30, f_mdc, q9, Option.bind_some, nI_leI, Nat.le_refl, if_true]
theorem X8_layCrew_s (hM : M8 d s) (hV : Vd s) : ∃ D L c, X8_layCrew (wld b d) (b + 243) = some (wld b D) ∧ mS d D ∧ Mb D s ∧ LF (cpa s) L (ct s (s 211)) c ∧ (∀ i, i < ct s (s 211) → D 254 i = nI (c i)) ∧ L ≤ ct s (s 211) ∧ ∀ x, x < L → ¬ Cpl (cpa s) x (ct s (s 211)) 0 z0 := by
  have h10 := ct_le hV
  obtain ⟨D0, L, e0, s0, b0, hL, hC, hm⟩ := X8_layHands_s (b := b) hM hV
  have hM0 := hM.ms s0
  have ex : X8_layCrew (wld b d) (b + 243) = ((wloop (un2 (X8_layCrew_b30 (b + 243) (nI L))) FU (wld b (ru D0 254 (ct s (s 211)) (fun _ => -1)), (0 : Int32))).bind fun M47 => some M47) := by
    unfold X8_layCrew
    rw [k_mod, Option.bind_some, e0, Option.bind_some]
    show ((wloop (un2 (X8_layCrew_b7 (b + 243) (nI L))) FU (wld b D0, (0 : Int32))).bind fun M11 => (wloop (un2 (X8_layCrew_b30 (b + 243) (nI L))) FU (M11, (0 : Int32))).bind fun M47 => some M47) = _
    rw [wl_count (fun i => (wld b (ru D0 254 i (fun _ => -1)), nI i)) (ct s (s 211)) (wld b (ru D0 254 (ct s (s 211)) (fun _ => -1))) (fun i hi => by
      have c1 : ¬ ct s (s 211) ≤ i := by omega
      simp (disch := omega) only [un2, X8_layCrew_b7, f_mdc, ru_ne, b0.1, Option.bind_some, nI_leI, c1, if_false, m_ha, sA_f isA_m.2.2.2.2.2.2.2.2.2.2, nI_1]
      rw [ru_st _ _ _ _ rfl]) (by simp (disch := omega) only [un2, X8_layCrew_b7, f_mdc, ru_ne, b0.1, Option.bind_some, nI_leI, Nat.le_refl, if_true]) (by omega) (by rw [ru_0]; rfl), Option.bind_some]
  obtain ⟨B, hB⟩ : ∃ B, B = 15000000000000 := ⟨_, rfl⟩
  obtain ⟨e, l1, D, c, rfl, l2, l3, l4⟩ := wl_idx (step := un2 (X8_layCrew_b30 (b + 243) (nI L))) (CI b s D0 L B) (CQ b s D0 L) (crew_step hB hM0 hV b0 hL hC) _ (wld b (ru D0 254 (ct s (s 211)) (fun _ => -1)), (0 : Int32)) ⟨0, z0, 0, _, rfl, by omega, fun k hk => ru_ne _ _ _ hk, fun i hi => absurd hi (by omega), fun hi => by rw [ru_in _ _ _ _ hi]; decide, fun i _ hi => ru_in _ _ _ _ hi, fun i hi => absurd hi (by omega), fun i k hi hk => absurd hk (by omega), fun i hi => absurd hi (by omega), by omega, fun h hh => absurd hh (by omega), rfl⟩ FU (fu_lt (by unfold meS; omega))
  rw [l1] at ex
  exact ⟨D, L, c, ex, fun k hk => by rw [l2 k (by omega)]; exact s0 k hk, b0.cg (l2 _ (by omega)) (l2 _ (by omega)) (l2 _ (by omega)), l4, l3, hL, hm⟩
end CREW
