/-! WHICH MOVES CAN BE DONE, AND WHICH TWO BY ONE HAND -/
def dab (s : Sg) (m : Nat) : Bool := evn s (s (171 + m))
def dst (s : Sg) (m k : Nat) : Nat := (s (171 + m) - s (171 + k)) + (s (171 + k) - s (171 + m))
theorem dst_c (s : Sg) (m k : Nat) : dst s m k = dst s k m := by unfold dst; omega
def rch (s : Sg) (m k : Nat) : Bool := decide (eT s m + dst s m k ≤ s (181 + k))
def cpm (s : Sg) (m k : Nat) : Bool := rch s m k || rch s k m
def fos (s : Sg) (m : Nat) : Nat := mkm (fun k => decide (k ≠ m) && !cpm s m k) (s 211)
/-- how many of the moves before m can be done, and which is the j-th of them -/
def ct (s : Sg) (m : Nat) : Nat := cN (dab s) m
def ab (s : Sg) (j : Nat) : Nat := fnd (fun m => dab s m && decide (ct s m = j)) (s 211) 0
theorem ct_suc (s : Sg) (m : Nat) : ct s (m + 1) = ct s m + (if dab s m then 1 else 0) := rfl
theorem ct_mono (s : Sg) : ∀ k m, ct s m ≤ ct s (m + k)
  | 0, m => Nat.le_refl _
  | k + 1, m => by
    have h1 := ct_mono s k m
    have h2 := ct_suc s (m + k)
    rw [← Nat.add_assoc]
    omega
theorem ct_lt {s : Sg} {m m' : Nat} (h : m < m') (hd : dab s m = true) : ct s m < ct s m' := by
  have h1 := ct_suc s m
  have h2 := ct_mono s (m' - (m + 1)) (m + 1)
  rw [show m + 1 + (m' - (m + 1)) = m' by omega] at h2
  rw [hd, if_pos rfl] at h1
  omega
theorem ct_ex {s : Sg} {j : Nat} : ∀ n, j < ct s n → ∃ m, m < n ∧ dab s m = true ∧ ct s m = j
  | 0, h => absurd h (by unfold ct cN sN; omega)
  | n + 1, h => by
    rw [ct_suc] at h
    by_cases c : j < ct s n
    · obtain ⟨m, h1, h2⟩ := ct_ex n c
      exact ⟨m, by omega, h2⟩
    · cases hd : dab s n with
      | true => rw [hd, if_pos rfl] at h; exact ⟨n, by omega, hd, by omega⟩
      | false => rw [hd] at h; simp at h; omega
theorem ct_inj {s : Sg} {m m' : Nat} (h1 : dab s m = true) (h2 : dab s m' = true) (h : ct s m = ct s m') : m = m' := by
  rcases Nat.lt_trichotomy m m' with g | g | g
  · have := ct_lt g h1; omega
  · exact g
  · have := ct_lt g h2; omega
theorem ab_ok {s : Sg} {j : Nat} (h : j < ct s (s 211)) : ab s j < s 211 ∧ dab s (ab s j) = true ∧ ct s (ab s j) = j := by
  obtain ⟨m, h1, h2, h3⟩ := ct_ex _ h
  obtain ⟨f1, f2, f3, f4⟩ := fnd_ok (p := fun m => dab s m && decide (ct s m = j)) (s 211) 0 ⟨m, by omega, by omega, by simp [h2, h3]⟩
  simp at f3
  exact ⟨by unfold ab; omega, f3.1, f3.2⟩
theorem ab_ct {s : Sg} {m : Nat} (hm : m < s 211) (hd : dab s m = true) : ct s m < ct s (s 211) ∧ ab s (ct s m) = m := by
  have h1 := ct_lt hm hd
  obtain ⟨f1, f2, f3⟩ := ab_ok h1
  exact ⟨h1, ct_inj f2 hd f3⟩
theorem ab_lt {s : Sg} {i j : Nat} (h : i < j) (hj : j < ct s (s 211)) : ab s i < ab s j := by
  obtain ⟨f1, f2, f3⟩ := ab_ok hj
  obtain ⟨g1, g2, g3⟩ := ab_ok (s := s) (j := i) (by omega)
  rcases Nat.lt_trichotomy (ab s i) (ab s j) with g | g | g
  · exact g
  · rw [g] at g3; omega
  · have := ct_lt g f2; omega
theorem ct_le {s : Sg} (hV : Vd s) : ct s (s 211) ≤ 10 := by
  have := cN_le (dab s) (s 211)
  have := hV.ln
  unfold ct
  omega
/-- both by one hand, for the j-th and the k-th that can be done -/
def cpa (s : Sg) (j k : Nat) : Prop := cpm s (ab s j) (ab s k) = true
theorem cpm_c (s : Sg) (m k : Nat) : cpm s m k = cpm s k m := by unfold cpm; rw [Bool.or_comm]
theorem nI_slt {a b c : Nat} (ha : a < 2 ^ 29) (hb : b < 2 ^ 29) (hc : c < 2 ^ 29) : nI a - nI b < nI c ↔ a < b + c := by
  rw [Int32.lt_iff_toInt_lt, pk_sub_toInt (by omega) (by omega), nI_toInt (by omega)]
  omega
theorem nI_sle {a b c : Nat} (ha : a < 2 ^ 29) (hb : b < 2 ^ 29) (hc : c < 2 ^ 29) : nI c ≤ nI a - nI b ↔ b + c ≤ a := by
  rw [Int32.le_iff_toInt_le, pk_sub_toInt (by omega) (by omega), nI_toInt (by omega)]
  omega
theorem nar_b (p : Bool) : vp_nar .boolean (bI p) = bI p := by cases p <;> decide
theorem eT_le {s : Sg} (hV : Vd s) {m : Nat} (hm : m < s 211) : eT s m ≤ 300 := by
  have h1 := eT_ok hV hm
  have h2 := lim_ok hV hm
  omega
section ABLE
variable {b : Nat} {d : Da} {m k : Nat} {s : Sg}
theorem dst_le (hV : Vd s) (hm : m < s 211) (hk : k < s 211) : dst s m k ≤ 10 := by
  have h10 := hV.ln
  have h1 := hV.of (m := m) (by omega)
  have h2 := hV.of (m := k) (by omega)
  unfold dst
  omega
theorem X1_reaches_s (hR : StR d 1 s) (hV : Vd s) (hm : m < s 211) (hk : k < s 211) (hE : d 94 m = nI (eT s m)) : X1_reaches (wld b d) (b + 91) (b + 1) (nI m) (nI k) = some (bI (rch s m k)) := by
  have h10 := hV.ln
  have h1 := hV.of (m := m) (by omega)
  have h2 := hV.of (m := k) (by omega)
  have h3 := hV.bg (m := k) (by omega)
  have h4 := eT_le hV hm
  have h5 := dst_le hV hm hk
  unfold X1_reaches
  simp (disch := omega) only [k_crw, Option.bind_some, f_movs isS_1, f_mov isS_1, f_mv isS_1, hR.m0 hm, hR.m0 hk, hR.m1 hk, f_crw, Nat.reduceAdd, lA_f isA_c.2.2.2.2.2.1, hE, iAbs_sub]
  have e : s (171 + m) - s (171 + k) + (s (171 + k) - s (171 + m)) = dst s m k := rfl
  rw [e]
  unfold rch
  by_cases c : eT s m + dst s m k ≤ s (181 + k)
  · rw [if_neg (fun g => by have := (nI_slt (by omega) (by omega) (by omega)).mp g; omega), decide_eq_true c]; rfl
  · rw [if_pos ((nI_slt (by omega) (by omega) (by omega)).mpr (by omega)), decide_eq_false c]; rfl
theorem X1_foesOf_s (hR : StR d 1 s) (hV : Vd s) (hm : m < s 211) (hn : d 91 6 = nI (s 211)) (hE : ∀ m, m < s 211 → d 94 m = nI (eT s m)) : X1_foesOf (wld b d) (b + 91) (b + 1) (nI m) = some (nI (fos s m)) := by
  have h10 := hV.ln
  unfold X1_foesOf
  rw [k_crw, Option.bind_some, wl_count (fun k => (nI (mkm (fun k => decide (k ≠ m) && !cpm s m k) k), nI k)) (s 211) (nI (fos s m)) ?_ ?_ (by omega) ?_]
  · rfl
  · intro k hk
    have c1 : ¬ s 211 ≤ k := by omega
    simp (disch := omega) only [un2, X1_foesOf_b5, f_crc, hn, Option.bind_some, nI_leI, c1, if_false, nI_eq, nI_1, mkm, X1_reaches_s hR hV hk hm (hE k hk), X1_reaches_s hR hV hm hk (hE m hm), bI_0, z_ors]
    generalize mkm (fun k => decide (k ≠ m) && !cpm s m k) k = X
    unfold cpm
    by_cases e : k = m
    · simp [e]
    · by_cases r1 : rch s k m = true <;> by_cases r2 : rch s m k = true <;> simp [e, r1, r2]
  · simp (disch := omega) only [un2, X1_foesOf_b5, f_crc, hn, Option.bind_some, nI_leI, Nat.le_refl, if_true]
    rfl
  · rfl
/-- what the program has gathered before it gives out the moves -/
def Gw (d : Da) (s : Sg) : Prop := d 91 6 = nI (s 211) ∧ ∀ m, m < s 211 → d 93 m = bI (dab s m) ∧ d 94 m = nI (eT s m) ∧ d 95 m = nI (fos s m)
theorem gather1 (hR : StR d 1 s) (hV : Vd s) : ∃ D, cS d D ∧ Gw D s ∧ D 91 0 = 0 ∧ (∀ h, h < 10 → D 96 h = 0) ∧ X1_gather (wld b d) (b + 91) (b + 1) (b + 79) = (X1_giveFrom 14 (wld b D) (b + 91) 0).bind (un2 fun v40 M41 => (wloop (un2 (X1_gather_b99 (b + 91))) FU (M41, v40)).bind fun M55 => some M55) := by
  have h10 := hV.ln
  unfold X1_gather
  simp (disch := omega) only [k_crw, Option.bind_some, f_cnt isS_1, hR.cn, p_crc]
  have hc1 : cS d (du d 91 6 (nI (s 211))) := cS.du (by omega)
  have hR1 := hR.cs hV isS_1 hc1
  rw [X2_traceAll_s isS_1 hR1 hV, Option.bind_some]
  have hc2 := hc1.tr (ra_cS (du d 91 6 (nI (s 211))) s 10 (by omega))
  obtain ⟨M1, l1, D1, rfl, g1, g2⟩ := wl_ex (step := un2 (X1_gather_b15 (b + 91) (b + 1) (b + 79))) (s0 := (wld b (ra (du d 91 6 (nI (s 211))) s 10), (0 : Int32))) (fun i st => ∃ D, st = (wld b D, nI i) ∧ (∀ k, k ≠ 93 → k ≠ 94 → D k = ra (du d 91 6 (nI (s 211))) s 10 k) ∧ ∀ m, m < i → D 93 m = bI (dab s m) ∧ D 94 m = nI (eT s m)) (s 211) (fun M => ∃ D, M = wld b D ∧ (∀ k, k ≠ 93 → k ≠ 94 → D k = ra (du d 91 6 (nI (s 211))) s 10 k) ∧ ∀ m, m < s 211 → D 93 m = bI (dab s m) ∧ D 94 m = nI (eT s m)) (by
      rintro i st hi ⟨D, rfl, g1, g2⟩
      have c1 : ¬ s 211 ≤ i := by omega
      have hc3 : cS d D := fun k hk => by rw [g1 k (by omega) (by omega)]; exact hc2 k hk
      have hR3 := hR.cs hV isS_1 hc3
      have q6 : D 91 6 = nI (s 211) := by rw [g1 91 (by omega) (by omega), ra_row _ _ _ _ (by omega) (by omega), du_self]
      have hc4 : cS d (du D 93 i (bI (dab s i))) := hc3.tr (cS.du (by omega))
      have hR4 := hR.cs hV isS_1 hc4
      have hA := hV.of (m := i) (by omega)
      have hT : Tr (du D 93 i (bI (dab s i))) s (s (171 + i)) := fun t ht => by
        rw [du_row _ _ _ (by omega), g1 _ (by omega) (by omega)]
        exact ra_Tr _ s 10 _ hA t ht
      refine ⟨(wld b (du (du D 93 i (bI (dab s i))) 94 i (nI (eT s i))), nI (i + 1)), ?_, _, rfl, fun k h1 h2 => ?_, fun m hm => ?_⟩
      · have e1 : X6_isDoable (wld b D) (b + 1) (nI i) = some (bI (dab s i)) := X6_isDoable_s isS_1 hR3 hV hi
        simp (disch := omega) only [un2, X1_gather_b15, f_crc, q6, Option.bind_some, nI_leI, c1, if_false, f_crw, Nat.reduceAdd, e1, sZ_f isA_c.2.2.2.2.1, nar_b, X2_endOf_s isS_1 hR4 hV hi hT, sA_f isA_c.2.2.2.2.2.1, nI_1]
      · rw [du_row _ _ _ h2, du_row _ _ _ h1, g1 k h1 h2]
      · by_cases e : m = i
        · subst e
          rw [du_self, du_row _ _ _ (by omega), du_self]
          exact ⟨rfl, rfl⟩
        · rw [du_row _ _ _ (by omega), du_ne _ _ _ e, du_ne _ _ _ e, du_row _ _ _ (by omega)]
          exact g2 m (by omega)) (by
      rintro st ⟨D, rfl, g1, g2⟩
      have q6 : D 91 6 = nI (s 211) := by rw [g1 91 (by omega) (by omega), ra_row _ _ _ _ (by omega) (by omega), du_self]
      refine ⟨wld b D, ?_, D, rfl, g1, g2⟩
      simp (disch := omega) only [un2, X1_gather_b15, f_crc, q6, Option.bind_some, nI_leI, Nat.le_refl, if_true]) (by omega) ⟨_, rfl, fun _ _ _ => rfl, fun m hm => absurd hm (by omega)⟩
  rw [l1, Option.bind_some]
  have hc3 : cS d D1 := fun k hk => by rw [g1 k (by omega) (by omega)]; exact hc2 k hk
  have q6 : D1 91 6 = nI (s 211) := by rw [g1 91 (by omega) (by omega), ra_row _ _ _ _ (by omega) (by omega), du_self]
  obtain ⟨M2, l2, D2, rfl, f1, f2⟩ := wl_ex (step := un2 (X1_gather_b54 (b + 91) (b + 1))) (s0 := (wld b D1, (0 : Int32))) (fun i st => ∃ D, st = (wld b D, nI i) ∧ (∀ k, k ≠ 95 → D k = D1 k) ∧ ∀ m, m < i → D 95 m = nI (fos s m)) (s 211) (fun M => ∃ D, M = wld b D ∧ (∀ k, k ≠ 95 → D k = D1 k) ∧ ∀ m, m < s 211 → D 95 m = nI (fos s m)) (by
      rintro i st hi ⟨D, rfl, f1, f2⟩
      have c1 : ¬ s 211 ≤ i := by omega
      have hc4 : cS d D := fun k hk => by rw [f1 k (by omega)]; exact hc3 k hk
      have hR4 := hR.cs hV isS_1 hc4
      have q6 : D 91 6 = nI (s 211) := by rw [f1 91 (by omega)]; exact q6
      have e1 := X1_foesOf_s (b := b) hR4 hV hi q6 (fun m hm => by rw [f1 94 (by omega)]; exact (g2 m hm).2)
      refine ⟨(wld b (du D 95 i (nI (fos s i))), nI (i + 1)), ?_, _, rfl, fun k h1 => ?_, fun m hm => ?_⟩
      · simp (disch := omega) only [un2, X1_gather_b54, f_crc, q6, Option.bind_some, nI_leI, c1, if_false, f_crw, Nat.reduceAdd, e1, sA_f isA_c.2.2.2.2.2.2.1, nI_1]
      · rw [du_row _ _ _ h1, f1 k h1]
      · by_cases e : m = i
        · subst e
          rw [du_self]
        · rw [du_ne _ _ _ e]
          exact f2 m (by omega)) (by
      rintro st ⟨D, rfl, f1, f2⟩
      have q6 : D 91 6 = nI (s 211) := by rw [f1 91 (by omega)]; exact q6
      refine ⟨wld b D, ?_, D, rfl, f1, f2⟩
      simp (disch := omega) only [un2, X1_gather_b54, f_crc, q6, Option.bind_some, nI_leI, Nat.le_refl, if_true]) (by omega) ⟨_, rfl, fun _ _ => rfl, fun m hm => absurd hm (by omega)⟩
  rw [l2, Option.bind_some]
  have hfill : J7_fill_53178 (wld b D2) (b + 96) 0 = some (wld b (ru D2 96 10 (fun _ => 0))) := by
    unfold J7_fill_53178
    rw [aL_f isA_c.2.2.2.2.2.2.2, Option.bind_some, wl_count (fun i => (wld b (ru D2 96 i (fun _ => 0)), nI i)) 10 (wld b (ru D2 96 10 (fun _ => 0))) ?_ ?_ (by omega) ?_]
    · rfl
    · intro i hi
      have c1 : ¬ 10 ≤ i := by omega
      simp (disch := omega) only [un2, J7_fill_53178_b5, nI_leI, c1, if_false, sA_f isA_c.2.2.2.2.2.2.2, Option.bind_some, nI_1]
      rw [ru_st _ _ _ _ rfl]
    · simp (disch := omega) only [un2, J7_fill_53178_b5, nI_leI, Nat.le_refl, if_true]
    · rw [ru_0]; rfl
  refine ⟨du (ru D2 96 10 (fun _ => 0)) 91 0 0, fun k hk => ?_, ⟨?_, fun m hm => ?_⟩, du_self _ _ _ _, fun h hh => ?_, ?_⟩
  · rw [du_row _ _ _ (by omega), ru_ne _ _ _ (by omega), f1 k (by omega)]; exact hc3 k hk
  · rw [du_ne _ _ _ (by omega), ru_ne _ _ _ (by omega), f1 _ (by omega)]; exact q6
  · rw [du_row _ _ _ (by omega), ru_ne _ _ _ (by omega), du_row _ _ _ (by omega), ru_ne _ _ _ (by omega), du_row _ _ _ (by omega), ru_ne _ _ _ (by omega), f1 93 (by omega), f1 94 (by omega)]
    exact ⟨(g2 m hm).1, (g2 m hm).2, f2 m hm⟩
  · rw [du_row _ _ _ (by omega), ru_in _ _ _ _ hh]
  · simp (disch := omega) only [f_crw, Nat.reduceAdd, Option.bind_some, hfill, p_crc]
end ABLE
