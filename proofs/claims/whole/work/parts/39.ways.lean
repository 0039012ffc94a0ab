/-! THE REFERENCE'S LOADINGS -/
theorem z_sn (x : Int32) (a c : Nat) : x - nI a + -nI c = x - nI (a + c) := by
  rw [← nI_add a c, Int32.sub_eq_add_neg, Int32.sub_eq_add_neg, Int32.neg_add, Int32.sub_eq_add_neg, Int32.add_assoc]
theorem x_tb {P u v : Nat} (hu : u < 2 ^ P) (j : Nat) : (2 ^ P * v + u).testBit j = if j < P then u.testBit j else v.testBit (j - P) := Nat.testBit_two_pow_mul_add v hu j
theorem x_or1 {P u v k : Nat} (hu : u < 2 ^ P) (hk : k < P) : (2 ^ P * v + u) ||| 2 ^ k = 2 ^ P * v + (u ||| 2 ^ k) := by
  apply Nat.eq_of_testBit_eq
  intro j
  rw [z_tb, x_tb hu, x_tb (z_lt hu hk), z_tb]
  by_cases c : j < P
  · rw [if_pos c, if_pos c]
  · rw [if_neg c, if_neg c]
    have : ¬ k = j := by omega
    simp [this]
theorem x_or2 {P u v k : Nat} (hu : u < 2 ^ P) : (2 ^ P * v + u) ||| 2 ^ (P + k) = 2 ^ P * (v ||| 2 ^ k) + u := by
  apply Nat.eq_of_testBit_eq
  intro j
  rw [z_tb, x_tb hu, x_tb hu]
  by_cases c : j < P
  · rw [if_pos c, if_pos c]
    have : ¬ P + k = j := by omega
    simp [this]
  · rw [if_neg c, if_neg c, z_tb]
    have : (P + k = j) = (k = j - P) := by
      apply propext
      omega
    simp only [this]
theorem x_inj {P u u' v v' : Nat} (hu : u < 2 ^ P) (hu' : u' < 2 ^ P) (h : 2 ^ P * v + u = 2 ^ P * v' + u') : u = u' ∧ v = v' := by
  have h1 : (2 ^ P * v + u) % 2 ^ P = (2 ^ P * v' + u') % 2 ^ P := by rw [h]
  rw [Nat.mul_add_mod, Nat.mul_add_mod, Nat.mod_eq_of_lt hu, Nat.mod_eq_of_lt hu'] at h1
  subst h1
  refine ⟨rfl, ?_⟩
  have h2 : 2 ^ P * v = 2 ^ P * v' := by omega
  exact Nat.eq_of_mul_eq_mul_left (z_pos P) h2
theorem x_lt {P Q u v : Nat} (hu : u < 2 ^ P) (hv : v < 2 ^ Q) : 2 ^ P * v + u < 2 ^ (P + Q) := by
  rw [Nat.pow_add]
  have h1 : 2 ^ P * (v + 1) ≤ 2 ^ P * 2 ^ Q := Nat.mul_le_mul_left _ hv
  rw [Nat.mul_succ] at h1
  omega
theorem x_ex {P Q X : Nat} (h : X < 2 ^ (P + Q)) : ∃ u v, u < 2 ^ P ∧ v < 2 ^ Q ∧ X = 2 ^ P * v + u := by
  refine ⟨X % 2 ^ P, X / 2 ^ P, Nat.mod_lt _ (z_pos P), ?_, (Nat.div_add_mod X (2 ^ P)).symm⟩
  rw [Nat.pow_add, Nat.mul_comm] at h
  exact Nat.div_lt_of_lt_mul (by rw [Nat.mul_comm]; exact h)
theorem x_full {P Q u v : Nat} (hu : u < 2 ^ P) (hv : v < 2 ^ Q) : 2 ^ P * v + u = 2 ^ (P + Q) - 1 ↔ u = 2 ^ P - 1 ∧ v = 2 ^ Q - 1 := by
  have e : 2 ^ (P + Q) - 1 = 2 ^ P * (2 ^ Q - 1) + (2 ^ P - 1) := by
    rw [Nat.pow_add, Nat.mul_sub]
    have h1 : 2 ^ P * 1 ≤ 2 ^ P * 2 ^ Q := Nat.mul_le_mul_left _ (z_pos Q)
    have h2 := z_pos P
    omega
  have h2 := z_pos P
  rw [e]
  constructor
  · exact fun h => x_inj hu (by omega) h
  · rintro ⟨rfl, rfl⟩; rfl
theorem sN_add (h : Nat → Nat) (P : Nat) : ∀ Q, sN h (P + Q) = sN h P + sN (fun k => h (P + k)) Q
  | 0 => rfl
  | Q + 1 => by
    have ih := sN_add h P Q
    show sN h (P + Q) + h (P + Q) = sN h P + (sN (fun k => h (P + k)) Q + h (P + Q))
    omega
section MWAYS
variable {b : Nat} {d : Da} {q : Nat} {s : Sg}
theorem X8_has_s {M : Wo} {u k : Nat} (hu : u < 2 ^ 31) (hk : k < 32) : X8_has M (nI u) (nI k) = some (bI (u.testBit k)) := by
  unfold X8_has
  rw [z_bit hu hk]
  cases u.testBit k
  · rfl
  · rfl
theorem X8_pull_1 {k : Nat} (hM : M8 d s) (hV : Vd s) (hq : q < 10) (hk : k < s (30 + 10 * 0 + q)) : X8_pull (wld b d) (b + 243) (nI q) (nI k) = some (nI (pwt s q 0 k)) := by
  have h6 := hV.mn hq (i := 0) (by omega)
  have c : ¬ s (30 + 10 * 0 + q) ≤ k := by omega
  unfold X8_pull
  simp (disch := omega) only [k_mod, Option.bind_some, c_0, X8_many_s hM hq, nI_leI, c, if_false, X8_weight_s hM hq]
  rfl
theorem X8_pull_2 {k : Nat} (hM : M8 d s) (hV : Vd s) (hq : q < 10) (hk : k < 6) : X8_pull (wld b d) (b + 243) (nI q) (nI (s (30 + 10 * 0 + q) + k)) = some (-nI (pwt s q 1 k)) := by
  have h6 := hV.mn hq (i := 0) (by omega)
  have c : s (30 + 10 * 0 + q) ≤ s (30 + 10 * 0 + q) + k := by omega
  unfold X8_pull
  simp (disch := omega) only [k_mod, Option.bind_some, c_0, X8_many_s hM hq, nI_leI, c, if_true, pk_sub]
  rw [show s (30 + 10 * 0 + q) + k - s (30 + 10 * 0 + q) = k by omega, c_1]
  simp (disch := omega) only [X8_weight_s hM hq, Option.bind_some]
  rfl
/-- the reference's table -/
def Mt (d : Da) (P Q : Nat) (f g : Nat → Nat) (w u v : Nat) : Prop := d 247 (2 ^ P * v + u) = nI (wys P Q f g w u v)
theorem X8_sums_s {P Q w u v : Nat} (hM : M8 d s) (hV : Vd s) (hq : q < 10) (hP : P = s (30 + 10 * 0 + q)) (hQ : Q = s (30 + 10 * 1 + q)) (hT : d 243 4 = nI (P + Q)) (hu : u < 2 ^ P) (hv : v < 2 ^ Q) (h1 : ∀ u' v', u' < 2 ^ P → v' < 2 ^ Q → 2 ^ P * v + u < 2 ^ P * v' + u' → Mt d P Q (pwt s q 0) (pwt s q 1) w u' v') : wloop (un3 (X8_layWays_b38 (wld b d) (b + 243) (nI q) (nI (2 ^ P * v + u)))) FU (0, 0, 0) = some (nI (sB (pwt s q 0) u P) - nI (sB (pwt s q 1) v Q), nI (bhd P Q (pwt s q 0) (pwt s q 1) w u v)) := by
  have hP6 : P ≤ 6 := by rw [hP]; exact hV.mn hq (by omega)
  have hQ6 : Q ≤ 6 := by rw [hQ]; exact hV.mn hq (by omega)
  have hX := x_lt hu hv
  have pT := z_p12 (k := P + Q) (by omega)
  have tv : ∃ h : Nat → Nat, (∀ k, k < P → h k = if u.testBit k then 0 else wys P Q (pwt s q 0) (pwt s q 1) w (u ||| 2 ^ k) v) ∧ (∀ k, k < Q → h (P + k) = if v.testBit k then 0 else wys P Q (pwt s q 0) (pwt s q 1) w u (v ||| 2 ^ k)) := by
    refine ⟨fun k => if k < P then (if u.testBit k then 0 else wys P Q (pwt s q 0) (pwt s q 1) w (u ||| 2 ^ k) v) else (if v.testBit (k - P) then 0 else wys P Q (pwt s q 0) (pwt s q 1) w u (v ||| 2 ^ (k - P))), fun k hk => if_pos hk, fun k hk => ?_⟩
    dsimp only
    rw [if_neg (by omega), show P + k - P = k by omega]
  obtain ⟨h, t1, t2⟩ := tv
  have eb : sN h (P + Q) = bhd P Q (pwt s q 0) (pwt s q 1) w u v := by
    rw [sN_add, sN_congr P t1, sN_congr (f := fun k => h (P + k)) Q t2]
    rfl
  rw [wl_count (fun j => (nI (sB (pwt s q 0) u (min j P)) - nI (sB (pwt s q 1) v (j - P)), nI (sN h j), nI j)) (P + Q) (nI (sB (pwt s q 0) u P) - nI (sB (pwt s q 1) v Q), nI (bhd P Q (pwt s q 0) (pwt s q 1) w u v)) ?_ ?_ (by omega) ?_]
  · intro j hj
    have c1 : ¬ P + Q ≤ j := by omega
    have es : sN h (j + 1) = sN h j + h j := rfl
    simp (disch := omega) only [un3, X8_layWays_b38, f_mdc, hT, Option.bind_some, nI_leI, c1, if_false, X8_has_s, bI_0, x_tb hu, X8_layWays_L68, es, nI_1]
    by_cases c : j < P
    · rw [Nat.min_eq_left (by omega), Nat.min_eq_left (by omega), show j - P = 0 by omega, show j + 1 - P = 0 by omega]
      have e3 : sB (pwt s q 0) u (j + 1) = sB (pwt s q 0) u j + (if u.testBit j then pwt s q 0 j else 0) := rfl
      have e4 : nI (sB (pwt s q 1) v 0) = 0 := rfl
      simp only [if_pos c, e3, e4, Int32.sub_zero, t1 j c]
      cases hb : u.testBit j with
      | true =>
        rw [X8_pull_1 hM hV hq (by omega)]
        simp only [Bool.true_eq_false, if_false, if_true, Option.bind_some, nI_add, Nat.add_zero, Int32.add_zero]
      | false =>
        have g1 := h1 (u ||| 2 ^ j) v (z_lt hu c) hv (by have := z_gt hb; omega)
        have g2 := x_lt (z_lt hu c) hv
        simp only [Bool.false_eq_true, if_false, if_true, Option.bind_some, Int32.add_zero, Nat.add_zero, m_wy]
        rw [z_ors (by omega), x_or1 hu c, lA_f isA_m.2.2.2.1 (by omega), g1, Option.bind_some, nI_add]
    · rw [Nat.min_eq_right (by omega), Nat.min_eq_right (by omega)]
      obtain ⟨k, rfl⟩ : ∃ k, j = P + k := ⟨j - P, by omega⟩
      rw [show P + k - P = k by omega, show P + k + 1 - P = k + 1 by omega]
      have e3 : sB (pwt s q 1) v (k + 1) = sB (pwt s q 1) v k + (if v.testBit k then pwt s q 1 k else 0) := rfl
      simp only [if_neg c, e3, t2 k (by omega), show P + k - P = k by omega]
      cases hb : v.testBit k with
      | true =>
        have e5 : X8_pull (wld b d) (b + 243) (nI q) (nI (P + k)) = some (-nI (pwt s q 1 k)) := by rw [hP]; exact X8_pull_2 hM hV hq (by omega)
        rw [e5]
        simp only [Bool.true_eq_false, if_false, if_true, Option.bind_some, z_sn, Nat.add_zero, Int32.add_zero]
      | false =>
        have g0 := z_lt hv (show k < Q by omega)
        have g2 := x_lt hu g0
        have g1 := h1 u (v ||| 2 ^ k) hu g0 (by
          rw [← x_or2 hu]
          exact z_gt (by rw [x_tb hu, if_neg c, show P + k - P = k by omega]; exact hb))
        simp only [Bool.false_eq_true, if_false, if_true, Option.bind_some, Int32.add_zero, Nat.add_zero, m_wy]
        rw [z_ors (by omega), x_or2 hu, lA_f isA_m.2.2.2.1 (by omega), g1, Option.bind_some, nI_add]
  · simp (disch := omega) only [un3, X8_layWays_b38, f_mdc, hT, Option.bind_some, nI_leI, Nat.le_refl, if_true]
    rw [Nat.min_eq_right (by omega), show P + Q - P = Q by omega, eb]
  · rw [Nat.min_eq_left (Nat.zero_le P), Nat.zero_sub]
    show ((0 : Int32), (0 : Int32), (0 : Int32)) = (nI 0 - nI 0, nI 0, nI 0)
    rw [pk_sub (Nat.le_refl 0)]
    rfl
theorem X8_layWays_s {P Q w : Nat} (hM : M8 d s) (hV : Vd s) (hq : q < 10) (hP : P = s (30 + 10 * 0 + q)) (hQ : Q = s (30 + 10 * 1 + q)) (hw : w = s 170) : ∃ D, X8_layWays (wld b d) (b + 243) (nI q) = some (wld b D) ∧ (∀ k, k ≠ 243 → k ≠ 247 → D k = d k) ∧ D 243 4 = nI (P + Q) ∧ ∀ u v, u < 2 ^ P → v < 2 ^ Q → Mt D P Q (pwt s q 0) (pwt s q 1) w u v := by
  have hP6 : P ≤ 6 := by rw [hP]; exact hV.mn hq (by omega)
  have hQ6 : Q ≤ 6 := by rw [hQ]; exact hV.mn hq (by omega)
  have hw1 : w ≤ 100 := by rw [hw]; exact hV.sw
  have pT := z_p12 (k := P + Q) (by omega)
  have pT0 := z_pos (P + Q)
  unfold X8_layWays
  rw [k_mod, Option.bind_some, c_0, c_1, X8_many_s hM hq (by omega), Option.bind_some, X8_many_s hM hq (by omega), Option.bind_some, ← hP, ← hQ, nI_add]
  simp (disch := omega) only [p_mdc, Option.bind_some, f_mdc, du_self]
  rw [← c_1, z_m1 (by omega)]
  obtain ⟨e, l1, D, rfl, l2, l3⟩ := wl_ex (step := un2 (X8_layWays_b26 (b + 243) (nI q))) (s0 := (wld b (du d 243 4 (nI (P + Q))), nI (2 ^ (P + Q) - 1))) (fun i st => ∃ D, st = (wld b D, nI (2 ^ (P + Q)) - nI (i + 1)) ∧ (∀ k, k ≠ 247 → D k = du d 243 4 (nI (P + Q)) k) ∧ ∀ u v, u < 2 ^ P → v < 2 ^ Q → 2 ^ (P + Q) ≤ 2 ^ P * v + u + i → Mt D P Q (pwt s q 0) (pwt s q 1) w u v) (2 ^ (P + Q)) (fun M => ∃ D, M = wld b D ∧ (∀ k, k ≠ 247 → D k = du d 243 4 (nI (P + Q)) k) ∧ ∀ u v, u < 2 ^ P → v < 2 ^ Q → Mt D P Q (pwt s q 0) (pwt s q 1) w u v) (by
      rintro i st hi ⟨D, rfl, k1, k2⟩
      obtain ⟨X, hX, ev⟩ : ∃ X, X + (i + 1) = 2 ^ (P + Q) ∧ nI (2 ^ (P + Q)) - nI (i + 1) = nI X := ⟨2 ^ (P + Q) - (i + 1), by omega, pk_sub (by omega)⟩
      obtain ⟨u, v, hu, hv, rfl⟩ := x_ex (P := P) (Q := Q) (X := X) (by omega)
      have hMD : M8 D s := hM.cg (by rw [k1 244 (by omega), du_row _ _ _ (by omega)])
      have q4 : D 243 4 = nI (P + Q) := by rw [k1 243 (by omega), du_self]
      have sm := X8_sums_s (b := b) (w := w) hMD hV hq hP hQ q4 hu hv (fun u' v' a1 a2 a3 => k2 u' v' a1 a2 (by omega))
      have b1 : sB (pwt s q 0) u P ≤ 300 := sB_le hP6 (fun k hk => hV.we hq (by omega) (by omega))
      have b2 : sB (pwt s q 1) v Q ≤ 300 := sB_le hQ6 (fun k hk => hV.we hq (by omega) (by omega))
      have oe := wys_eq P Q (pwt s q 0) (pwt s q 1) w hP6 hQ6 u v
      have st : ∀ (x : Int32), x = nI (wys P Q (pwt s q 0) (pwt s q 1) w u v) → ∃ D'', (wld b (du D 247 (2 ^ P * v + u) x), nI (2 ^ P * v + u) + -1) = (wld b D'', nI (2 ^ (P + Q)) - nI (i + 1 + 1)) ∧ (∀ k, k ≠ 247 → D'' k = du d 243 4 (nI (P + Q)) k) ∧ ∀ u v, u < 2 ^ P → v < 2 ^ Q → 2 ^ (P + Q) ≤ 2 ^ P * v + u + (i + 1) → Mt D'' P Q (pwt s q 0) (pwt s q 1) w u v := by
        rintro x rfl
        refine ⟨_, by rw [← ev, z_dn], fun k hk => by rw [du_row _ _ _ hk, k1 k hk], fun u' v' hu' hv' hh => ?_⟩
        unfold Mt
        by_cases e : 2 ^ P * v' + u' = 2 ^ P * v + u
        · obtain ⟨e1, e2⟩ := x_inj hu' hu e
          rw [e1, e2, du_self]
        · rw [du_ne _ _ _ e]
          exact k2 u' v' hu' hv' (by omega)
      rw [ev]
      simp (disch := omega) only [un2, X8_layWays_b26, nI_pos, if_false, sm, Option.bind_some, m_wy, X8_size_s, m_st, c_170, m_s hMD, ← hw, iAbs_le, f_mdc, q4, z_m1, nI_eq, x_full hu hv, sA_f isA_m.2.2.2.1]
      by_cases ok : sB (pwt s q 0) u P ≤ sB (pwt s q 1) v Q + w ∧ sB (pwt s q 1) v Q ≤ sB (pwt s q 0) u P + w
      · rw [if_pos ok]
        rw [show okL P Q (pwt s q 0) (pwt s q 1) w u v = true from decide_eq_true ok, if_pos rfl] at oe
        by_cases fu : u = 2 ^ P - 1 ∧ v = 2 ^ Q - 1
        · rw [if_pos fu] at oe ⊢
          exact ⟨_, rfl, st _ (by rw [oe]; rfl)⟩
        · rw [if_neg fu] at oe ⊢
          exact ⟨_, rfl, st _ (by rw [oe])⟩
      · rw [if_neg ok]
        rw [show okL P Q (pwt s q 0) (pwt s q 1) w u v = false from decide_eq_false ok, if_neg (by decide)] at oe
        exact ⟨_, rfl, st _ (by rw [oe]; rfl)⟩) (by
      rintro st ⟨D, rfl, k1, k2⟩
      refine ⟨wld b D, ?_, D, rfl, k1, fun u v hu hv => k2 u v hu hv (by omega)⟩
      simp (disch := omega) only [un2, X8_layWays_b26, nI_neg_lt, Nat.lt_succ_self, if_true]) (by omega) ⟨_, by rw [pk_sub (a := 2 ^ (P + Q)) (b := 0 + 1) pT0], fun _ _ => rfl, fun u v hu hv hh => absurd hh (by have := x_lt hu hv; omega)⟩
  refine ⟨D, by rw [l1]; rfl, fun k h1 h2 => by rw [l2 k h2, du_row _ _ _ h1], by rw [l2 243 (by omega), du_self], l3⟩
end MWAYS
