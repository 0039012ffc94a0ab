/-! THE PROGRAM'S LOADER -/
def pwt (s : Sg) (q i : Nat) : Nat → Nat := fun k => s (50 + 12 * q + 6 * i + k)
section LOADER
variable {b : Nat} {d : Da} {q i : Nat} {s : Sg}
theorem X3_fillSums_s {K : Nat} (hK : K = 76 ∨ K = 77) (hR : StR d 1 s) (hV : Vd s) (hq : q < 10) (hi : i < 2) : ∃ D, X3_fillSums (wld b d) (b + lPil 1 q i) (b + K) = some (wld b D) ∧ (∀ k, k ≠ K → D k = d k) ∧ ∀ u, u < 2 ^ (s (30 + 10 * i + q)) → D K u = nI (sB (pwt s q i) u (s (30 + 10 * i + q))) := by
  have h6 := hV.mn hq hi
  have hA : isA K 64 := by
    rcases hK with rfl | rfl
    · exact isA_c.1
    · exact isA_c.2.1
  unfold X3_fillSums
  rw [c_0, sA_f hA (by omega), Option.bind_some]
  have zP : lPil 1 q i ≠ K := by unfold lPil; omega
  have zW : lWei 1 q i ≠ K := by unfold lWei; omega
  obtain ⟨e, l1, D, rfl, l2, l3⟩ := wl_ex (step := un2 (X3_fillSums_b6 (b + lPil 1 q i) (b + K))) (s0 := (wld b (du d K 0 (nI 0)), nI 0)) (fun k st => ∃ D, st = (wld b D, nI k) ∧ (∀ k, k ≠ K → D k = d k) ∧ ∀ u, u < 2 ^ k → D K u = nI (sB (pwt s q i) u k)) (s (30 + 10 * i + q)) (fun M => ∃ D, M = wld b D ∧ (∀ k, k ≠ K → D k = d k) ∧ ∀ u, u < 2 ^ (s (30 + 10 * i + q)) → D K u = nI (sB (pwt s q i) u (s (30 + 10 * i + q)))) (by
      rintro k st hk ⟨D, rfl, g1, g2⟩
      have hp := z_p6 (k := k + 1) (by omega)
      have e2 : 2 ^ (k + 1) = 2 ^ k + 2 ^ k := by rw [Nat.pow_succ]; omega
      have c1 : ¬ s (30 + 10 * i + q) ≤ k := by omega
      refine ⟨(wld b (sg D K (2 ^ k) (2 ^ k) (fun j => nI (sB (pwt s q i) j k + pwt s q i k))), nI (k + 1)), ?_, _, rfl, fun j hj => ?_, fun u hu => ?_⟩
      · simp (disch := omega) only [un2, X3_fillSums_b6, f_siz isS_1 hq hi, g1 _ zP, hR.pi hq hi, Option.bind_some, nI_leI, c1, if_false, z_sh]
        rw [wl_count (fun x => (wld b (sg D K (2 ^ k) x (fun j => nI (sB (pwt s q i) j k + pwt s q i k))), nI x)) (2 ^ k) (wld b (sg D K (2 ^ k) (2 ^ k) (fun j => nI (sB (pwt s q i) j k + pwt s q i k)))) ?_ ?_ (by omega) ?_]
        · rw [Option.bind_some, nI_1]
        · intro x hx
          have c2 : ¬ 2 ^ k ≤ x := by omega
          simp (disch := omega) only [un2, X3_fillSums_b21, nI_leI, c2, if_false, lA_f hA, sg_out, g2 x hx, Option.bind_some, f_wei isS_1 hq hi, lA_f (isA_wei isS_1 hq hi), sg_ne _ _ _ _ zW, g1 _ zW, hR.we hq hi, nI_add, sA_f hA, nI_1]
          rw [show s (50 + 12 * q + 6 * i + k) = pwt s q i k from rfl, Nat.add_comm x (2 ^ k), sg_st D K (2 ^ k) x (fun j => nI (sB (pwt s q i) j k + pwt s q i k)) rfl]
        · simp (disch := omega) only [un2, X3_fillSums_b21, nI_leI, Nat.le_refl, if_true]
        · rw [sg_0]; rfl
      · rw [sg_ne _ _ _ _ hj, g1 j hj]
      · by_cases c : u < 2 ^ k
        · rw [sg_out _ _ _ _ _ (by omega), g2 u c, sB_lo c]
        · obtain ⟨j, rfl⟩ : ∃ j, u = 2 ^ k + j := ⟨u - 2 ^ k, by omega⟩
          rw [sg_in _ _ _ _ _ (by omega), sB_hi (by omega)]) (by
      rintro st ⟨D, rfl, g1, g2⟩
      refine ⟨wld b D, ?_, D, rfl, g1, g2⟩
      simp (disch := omega) only [un2, X3_fillSums_b6, f_siz isS_1 hq hi, g1 _ zP, hR.pi hq hi, Option.bind_some, nI_leI, Nat.le_refl, if_true]) (by omega) ⟨_, rfl, fun k hk => du_row _ _ _ hk, fun u hu => by
        have : u = 0 := by omega
        subst this
        rw [du_self]; rfl⟩
  exact ⟨D, by rw [l1]; rfl, l2, l3⟩
/-- the loader's table -/
def Lt (d : Da) (P Q : Nat) (f g : Nat → Nat) (w u v : Nat) : Prop := d 78 (v * 64 + u) = nI (wys P Q f g w u v)
def Lc (d : Da) (P Q : Nat) : Prop := P ≤ 6 ∧ Q ≤ 6 ∧ d 75 3 = nI P ∧ d 75 4 = nI Q
theorem X3_ordersBehind_s {P Q u v w : Nat} {f g : Nat → Nat} (hc : Lc d P Q) (hu : u < 2 ^ P) (hv : v < 2 ^ Q) (h1 : ∀ k, k < P → u.testBit k = false → Lt d P Q f g w (u ||| 2 ^ k) v) (h2 : ∀ k, k < Q → v.testBit k = false → Lt d P Q f g w u (v ||| 2 ^ k)) : X3_ordersBehind (wld b d) (b + 75) (nI u) (nI v) = some (nI (if u = 2 ^ P - 1 ∧ v = 2 ^ Q - 1 then 1 else bhd P Q f g w u v)) := by
  obtain ⟨hP, hQ, q3, q4⟩ := hc
  have pP := z_p6 hP
  have pQ := z_p6 hQ
  have L26 : X3_ordersBehind_L26 (wld b d) (b + 75) (nI u) (nI v) = some (nI (bhd P Q f g w u v)) := by
    unfold X3_ordersBehind_L26
    rw [wl_count (fun k => (nI (sN (fun k => if u.testBit k then 0 else wys P Q f g w (u ||| 2 ^ k) v) k), nI k)) P (nI (sN (fun k => if u.testBit k then 0 else wys P Q f g w (u ||| 2 ^ k) v) P)) ?_ ?_ (by omega) ?_]
    · rw [Option.bind_some, wl_count (fun k => (nI (sN (fun k => if u.testBit k then 0 else wys P Q f g w (u ||| 2 ^ k) v) P + sN (fun k => if v.testBit k then 0 else wys P Q f g w u (v ||| 2 ^ k)) k), nI k)) Q (nI (bhd P Q f g w u v)) ?_ ?_ (by omega) ?_]
      · rfl
      · intro k hk
        have c1 : ¬ Q ≤ k := by omega
        have e1 : ∀ x, sN (fun k => if v.testBit k then 0 else wys P Q f g w u (v ||| 2 ^ k)) (x + 1) = sN (fun k => if v.testBit k then 0 else wys P Q f g w u (v ||| 2 ^ k)) x + (if v.testBit x then 0 else wys P Q f g w u (v ||| 2 ^ x)) := fun _ => rfl
        simp (disch := omega) only [un2, X3_ordersBehind_b76, f_ldc, q4, Option.bind_some, nI_leI, c1, if_false, z_bit, bI_0, f_ldr, X3_indexOf, z_ors, e1, nI_1]
        cases hb : v.testBit k with
        | true => simp only [Bool.true_eq_false, if_false, if_true, Nat.add_zero]
        | false =>
          have g1 := z_lt hv hk
          simp only [Bool.false_eq_true, if_false, if_true, c_64, pk_mul, nI_add]
          rw [lA_f isA_c.2.2.1 (by omega), h2 k hk hb, Option.bind_some, nI_add, Nat.add_assoc]
      · simp (disch := omega) only [un2, X3_ordersBehind_b76, f_ldc, q4, Option.bind_some, nI_leI, Nat.le_refl, if_true]
        rfl
      · rfl
    · intro k hk
      have c1 : ¬ P ≤ k := by omega
      have e1 : ∀ x, sN (fun k => if u.testBit k then 0 else wys P Q f g w (u ||| 2 ^ k) v) (x + 1) = sN (fun k => if u.testBit k then 0 else wys P Q f g w (u ||| 2 ^ k) v) x + (if u.testBit x then 0 else wys P Q f g w (u ||| 2 ^ x) v) := fun _ => rfl
      simp (disch := omega) only [un2, X3_ordersBehind_b31, f_ldc, q3, Option.bind_some, nI_leI, c1, if_false, z_bit, bI_0, f_ldr, X3_indexOf, z_ors, e1, nI_1]
      cases hb : u.testBit k with
      | true => simp only [Bool.true_eq_false, if_false, if_true, Nat.add_zero]
      | false =>
        have g1 := z_lt hu hk
        simp only [Bool.false_eq_true, if_false, if_true, c_64, pk_mul, nI_add]
        rw [lA_f isA_c.2.2.1 (by omega), h1 k hk hb, Option.bind_some, nI_add]
    · simp (disch := omega) only [un2, X3_ordersBehind_b31, f_ldc, q3, Option.bind_some, nI_leI, Nat.le_refl, if_true]
    · rfl
  unfold X3_ordersBehind
  simp (disch := omega) only [k_ldr, f_ldc, q3, q4, Option.bind_some, z_m1, L26]
  by_cases e1 : u = 2 ^ P - 1
  · rw [if_pos (by rw [e1])]
    by_cases e2 : v = 2 ^ Q - 1
    · rw [if_pos (by rw [e2]), if_pos ⟨e1, e2⟩]
      rfl
    · rw [if_neg (fun g => e2 ((nI_eq (by omega) (by omega)).mp g)), if_neg (fun g => e2 g.2)]
  · rw [if_neg (fun g => e1 ((nI_eq (by omega) (by omega)).mp g)), if_neg (fun g => e1 g.1)]
theorem z_dn (x : Int32) (j : Nat) : x - nI j + (-1) = x - nI (j + 1) := by
  rw [← nI_add j 1, Int32.sub_eq_add_neg, Int32.sub_eq_add_neg, Int32.neg_add, Int32.sub_eq_add_neg, Int32.add_assoc]
  rfl
theorem X3_reckon_s {P Q w : Nat} (hR : StR d 1 s) (hV : Vd s) (hq : q < 10) (hP : P = s (30 + 10 * 0 + q)) (hQ : Q = s (30 + 10 * 1 + q)) (hw : w ≤ 100) : ∃ D, X3_reckon (wld b d) (b + 75) (b + lBar 1 q) (nI w) = some (wld b D) ∧ (∀ k, k < 75 ∨ 78 < k → D k = d k) ∧ Lc D P Q ∧ ∀ u v, u < 2 ^ P → v < 2 ^ Q → Lt D P Q (pwt s q 0) (pwt s q 1) w u v := by
  have hP6 : P ≤ 6 := by rw [hP]; exact hV.mn hq (by omega)
  have hQ6 : Q ≤ 6 := by rw [hQ]; exact hV.mn hq (by omega)
  have pP := z_p6 hP6
  have pQ := z_p6 hQ6
  unfold X3_reckon
  simp (disch := omega) only [k_ldr, Option.bind_some, f_pcs isS_1 hq, f_brk isS_1 hq, f_siz isS_1 hq, hR.pi hq, p_ldc]
  rw [du_row _ _ _ (by unfold lPil; omega), hR.pi hq (by omega), ← hP, ← hQ]
  simp (disch := omega) only [Option.bind_some, p_ldc, f_pcs isS_1 hq, f_brk isS_1 hq, f_ldr, Nat.add_zero, Nat.reduceAdd]
  have hR1 : StR (du (du d 75 3 (nI P)) 75 4 (nI Q)) 1 s := hR.cg hV.ln (fun k a1 a2 => by rw [du_row _ _ _ (by omega), du_row _ _ _ (by omega)])
  obtain ⟨D1, e1, f1, g1⟩ := X3_fillSums_s (b := b) (K := 76) (Or.inl rfl) hR1 hV hq (show 0 < 2 by omega)
  rw [e1, Option.bind_some]
  simp (disch := omega) only [Option.bind_some, f_pcs isS_1 hq, f_brk isS_1 hq, f_ldr, Nat.add_zero, Nat.reduceAdd]
  have hR2 : StR D1 1 s := hR1.cg hV.ln (fun k a1 a2 => f1 k (by omega))
  obtain ⟨D2, e2, f2, g2⟩ := X3_fillSums_s (b := b) (K := 77) (Or.inr rfl) hR2 hV hq (show 1 < 2 by omega)
  rw [e2, Option.bind_some]
  rw [← hP] at g1
  rw [← hQ] at g2
  have q3 : D2 75 3 = nI P := by rw [f2 75 (by omega), f1 75 (by omega), du_ne _ _ _ (by omega), du_self]
  have q4 : D2 75 4 = nI Q := by rw [f2 75 (by omega), f1 75 (by omega), du_self]
  have s1 : ∀ u, u < 2 ^ P → D2 76 u = nI (sB (pwt s q 0) u P) := fun u hu => by rw [f2 76 (by omega)]; exact g1 u hu
  have s2 : ∀ v, v < 2 ^ Q → D2 77 v = nI (sB (pwt s q 1) v Q) := g2
  simp (disch := omega) only [f_ldc, q4, Option.bind_some, z_m1]
  obtain ⟨e, l1, D, rfl, l2, l3⟩ := wl_ex (step := un2 (X3_reckon_b53 (b + 75) (nI w))) (s0 := (wld b D2, nI (2 ^ Q - 1))) (fun i st => ∃ D, st = (wld b D, nI (2 ^ Q) - nI (i + 1)) ∧ (∀ k, k ≠ 78 → D k = D2 k) ∧ ∀ u v, u < 2 ^ P → v < 2 ^ Q → 2 ^ Q ≤ v + i → Lt D P Q (pwt s q 0) (pwt s q 1) w u v) (2 ^ Q) (fun M => ∃ D, M = wld b D ∧ (∀ k, k ≠ 78 → D k = D2 k) ∧ ∀ u v, u < 2 ^ P → v < 2 ^ Q → Lt D P Q (pwt s q 0) (pwt s q 1) w u v) (by
      rintro i st hi ⟨D, rfl, k1, k2⟩
      obtain ⟨v0, hv0, ev⟩ : ∃ v0, v0 + (i + 1) = 2 ^ Q ∧ nI (2 ^ Q) - nI (i + 1) = nI v0 := ⟨2 ^ Q - (i + 1), by omega, pk_sub (by omega)⟩
      obtain ⟨M', l1, D', rfl, l2, l3⟩ := wl_ex (step := un2 (X3_reckon_b67 (b + 75) (nI w) (nI v0))) (s0 := (wld b D, nI (2 ^ P - 1))) (fun j st => ∃ D', st = (wld b D', nI (2 ^ P) - nI (j + 1)) ∧ (∀ k, k ≠ 78 → D' k = D2 k) ∧ ∀ u v, u < 2 ^ P → v < 2 ^ Q → (2 ^ Q ≤ v + i ∨ v = v0 ∧ 2 ^ P ≤ u + j) → Lt D' P Q (pwt s q 0) (pwt s q 1) w u v) (2 ^ P) (fun M => ∃ D, M = wld b D ∧ (∀ k, k ≠ 78 → D k = D2 k) ∧ ∀ u v, u < 2 ^ P → v < 2 ^ Q → 2 ^ Q ≤ v + (i + 1) → Lt D P Q (pwt s q 0) (pwt s q 1) w u v) (by
          rintro j st hj ⟨D', rfl, m1, m2⟩
          obtain ⟨u0, hu0, eu⟩ : ∃ u0, u0 + (j + 1) = 2 ^ P ∧ nI (2 ^ P) - nI (j + 1) = nI u0 := ⟨2 ^ P - (j + 1), by omega, pk_sub (by omega)⟩
          have hLc : Lc D' P Q := ⟨hP6, hQ6, by rw [m1 75 (by omega)]; exact q3, by rw [m1 75 (by omega)]; exact q4⟩
          have o := X3_ordersBehind_s (b := b) (u := u0) (v := v0) (f := pwt s q 0) (g := pwt s q 1) (w := w) hLc (by omega) (by omega) (fun k hk hb => m2 _ _ (z_lt (by omega) hk) (by omega) (Or.inr ⟨rfl, by have := z_gt hb; omega⟩)) (fun k hk hb => m2 _ _ (by omega) (z_lt (by omega) hk) (Or.inl (by have := z_gt hb; omega)))
          have b1 : sB (pwt s q 0) u0 P ≤ 300 := sB_le hP6 (fun k hk => hV.we hq (by omega) (by omega))
          have b2 : sB (pwt s q 1) v0 Q ≤ 300 := sB_le hQ6 (fun k hk => hV.we hq (by omega) (by omega))
          have st : ∀ (x : Int32), x = nI (wys P Q (pwt s q 0) (pwt s q 1) w u0 v0) → ∃ D'', (wld b (du D' 78 (v0 * 64 + u0) x), nI u0 + -1) = (wld b D'', nI (2 ^ P) - nI (j + 1 + 1)) ∧ (∀ k, k ≠ 78 → D'' k = D2 k) ∧ ∀ u v, u < 2 ^ P → v < 2 ^ Q → (2 ^ Q ≤ v + i ∨ v = v0 ∧ 2 ^ P ≤ u + (j + 1)) → Lt D'' P Q (pwt s q 0) (pwt s q 1) w u v := by
            rintro x rfl
            refine ⟨_, by rw [← eu, z_dn], fun k hk => by rw [du_row _ _ _ hk, m1 k hk], fun u v hu hv hh => ?_⟩
            unfold Lt
            by_cases e : v = v0 ∧ u = u0
            · rw [e.1, e.2, du_self]
            · rw [du_ne _ _ _ (by omega)]
              exact m2 u v hu hv (by omega)
          have oe := wys_eq P Q (pwt s q 0) (pwt s q 1) w hP6 hQ6 u0 v0
          rw [eu]
          simp (disch := omega) only [un2, X3_reckon_b67, nI_pos, if_false, f_ldr, Nat.add_zero, Nat.reduceAdd, Option.bind_some, lA_f isA_c.1, lA_f isA_c.2.1, m1, s1, s2, iAbs_lt, X3_reckon_L98, X3_indexOf, o, c_64, pk_mul, nI_add, sA_f isA_c.2.2.1]
          by_cases ok : sB (pwt s q 0) u0 P ≤ sB (pwt s q 1) v0 Q + w ∧ sB (pwt s q 1) v0 Q ≤ sB (pwt s q 0) u0 P + w
          · rw [if_neg (fun h => h ok), if_neg (show ¬ (1 : Int32) = 0 by decide)]
            rw [show okL P Q (pwt s q 0) (pwt s q 1) w u0 v0 = true from decide_eq_true ok, if_pos rfl] at oe
            exact ⟨_, rfl, st _ (by rw [oe])⟩
          · rw [if_pos ok, if_pos trivial]
            rw [show okL P Q (pwt s q 0) (pwt s q 1) w u0 v0 = false from decide_eq_false ok, if_neg (by decide)] at oe
            exact ⟨_, rfl, st _ (by rw [oe]; rfl)⟩) (by
          rintro st ⟨D', rfl, m1, m2⟩
          refine ⟨wld b D', ?_, D', rfl, m1, fun u v hu hv hh => m2 u v hu hv (by omega)⟩
          simp (disch := omega) only [un2, X3_reckon_b67, nI_neg_lt, Nat.lt_succ_self, if_true]) (by omega) ⟨D, by rw [pk_sub (a := 2 ^ P) (b := 0 + 1) (z_pos P)], k1, fun u v hu hv hh => k2 u v hu hv (by omega)⟩
      refine ⟨(wld b D', nI (2 ^ Q) - nI (i + 1 + 1)), ?_, D', rfl, l2, l3⟩
      have z1 := k1 75 (by omega)
      rw [ev]
      simp (disch := omega) only [un2, X3_reckon_b53, nI_pos, if_false, f_ldc, z1, q3, Option.bind_some, z_m1, l1]
      rw [← ev, z_dn]) (by
      rintro st ⟨D, rfl, k1, k2⟩
      refine ⟨wld b D, ?_, D, rfl, k1, fun u v hu hv => k2 u v hu hv (by omega)⟩
      simp (disch := omega) only [un2, X3_reckon_b53, nI_neg_lt, Nat.lt_succ_self, if_true]) (by omega) ⟨D2, by rw [pk_sub (a := 2 ^ Q) (b := 0 + 1) (z_pos Q)], fun _ _ => rfl, fun u v hu hv hh => absurd hh (by omega)⟩
  refine ⟨D, by rw [l1]; rfl, fun k hk => ?_, ⟨hP6, hQ6, by rw [l2 75 (by omega)]; exact q3, by rw [l2 75 (by omega)]; exact q4⟩, l3⟩
  rw [l2 k (by omega), f2 k (by omega), f1 k (by omega), du_row _ _ _ (by omega), du_row _ _ _ (by omega)]
end LOADER
