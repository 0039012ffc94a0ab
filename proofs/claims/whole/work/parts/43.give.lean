/-! THE PROGRAM GIVES THE MOVES OUT -/
theorem z_and (a b : Nat) : nI a &&& nI b = nI (a &&& b) := by
  apply Int32.toBitVec_inj.mp
  show BitVec.ofNat 32 a &&& BitVec.ofNat 32 b = BitVec.ofNat 32 (a &&& b)
  exact (BitVec.ofNat_and).symm
theorem z_not {X Y : Nat} : nI X &&& (nI Y ^^^ (-1 : Int32)) = nI (X &&& (X ^^^ Y)) := by
  apply Int32.toBitVec_inj.mp
  show BitVec.ofNat 32 X &&& (BitVec.ofNat 32 Y ^^^ BitVec.allOnes 32) = BitVec.ofNat 32 (X &&& (X ^^^ Y))
  apply BitVec.eq_of_getLsbD_eq
  intro i hi
  simp only [BitVec.getLsbD_and, BitVec.getLsbD_xor, BitVec.getLsbD_ofNat, BitVec.getLsbD_allOnes, Nat.testBit_and, Nat.testBit_xor, hi, decide_true, Bool.true_and]
  cases X.testBit i <;> cases Y.testBit i <;> rfl
theorem z_clr {X m : Nat} (h : X.testBit m = false) : (X ||| 2 ^ m) &&& ((X ||| 2 ^ m) ^^^ 2 ^ m) = X := by
  apply Nat.eq_of_testBit_eq
  intro i
  rw [Nat.testBit_and, Nat.testBit_xor, z_tb, Nat.testBit_two_pow]
  by_cases e : m = i
  · subst e; simp [h]
  · simp [e]
/-- what hand h has done of the moves before m -/
def dn (s : Sg) (c : Sg) (m h : Nat) : Nat := mkm (fun k => dab s k && decide (c (ct s k) = h)) m
def hv (s : Sg) (c : Sg) (m : Nat) : Int32 := if dab s m then nI (c (ct s m)) else -6
theorem mkm_cg {p q : Nat → Bool} : ∀ n, (∀ k, k < n → p k = q k) → mkm p n = mkm q n
  | 0, _ => rfl
  | n + 1, h => by
    simp only [mkm]
    rw [h n (by omega), mkm_cg n (fun k hk => h k (by omega))]
theorem dn_tb (s c : Sg) (m h k : Nat) : (dn s c m h).testBit k = (decide (k < m) && (dab s k && decide (c (ct s k) = h))) := mkm_tb _ m k
theorem dn_no {s c : Sg} {m h : Nat} (hd : dab s m = false) : dn s c (m + 1) h = dn s c m h := by
  unfold dn
  simp only [mkm]
  rw [if_neg (by rw [hd]; simp)]
theorem dn_lt (s c : Sg) (m h : Nat) : dn s c m h < 2 ^ m := mkm_lt _ _
theorem dn_0 {s c : Sg} {m h : Nat} (hm : m ≤ s 211) : dn s c m h = 0 ↔ ∀ i, i < ct s m → c i ≠ h := by
  constructor
  · intro e i hi hc
    obtain ⟨k, h1, h2, h3⟩ := ct_ex m hi
    have t := dn_tb s c m h k
    rw [e, Nat.zero_testBit, h2, h3] at t
    simp [h1, hc] at t
  · intro H
    apply Nat.eq_of_testBit_eq
    intro k
    rw [Nat.zero_testBit, dn_tb]
    by_cases h1 : k < m
    · cases h2 : dab s k with
      | false => simp
      | true => simp [H (ct s k) (ct_lt h1 h2)]
    · simp [h1]
theorem dn_up {s c : Sg} {m h h' : Nat} (hd : dab s m = true) : dn s (sU c (ct s m) h) (m + 1) h' = if h' = h then dn s c m h ||| 2 ^ m else dn s c m h' := by
  have e : ∀ x, mkm (fun k => dab s k && decide (sU c (ct s m) h (ct s k) = x)) m = dn s c m x := fun x => mkm_cg m (fun k hk => by
    cases h2 : dab s k with
    | false => rfl
    | true => rw [sU_ne _ _ (by have := ct_lt hk h2; omega)])
  show (if (dab s m && decide (sU c (ct s m) h (ct s m) = h')) = true then mkm _ m ||| 2 ^ m else mkm _ m) = _
  rw [e h', hd, sU_eq]
  by_cases g : h' = h
  · rw [if_pos g, if_pos (by simp [g]), g]
  · rw [if_neg g, if_neg (by simp; omega)]
theorem dn_fos {s c : Sg} {m h : Nat} (hm : m < s 211) : dn s c m h &&& fos s m = 0 ↔ ∀ i, i < ct s m → c i = h → cpm s m (ab s i) = true := by
  have tf : ∀ k, (fos s m).testBit k = (decide (k < s 211) && (decide (k ≠ m) && !cpm s m k)) := fun k => mkm_tb _ _ k
  constructor
  · intro e i hi hc
    obtain ⟨k, h1, h2, h3⟩ := ct_ex m hi
    have ek : ab s i = k := by rw [← h3]; exact (ab_ct (by omega) h2).2
    have t : (dn s c m h &&& fos s m).testBit k = false := by rw [e, Nat.zero_testBit]
    rw [Nat.testBit_and, dn_tb, tf, h2, h3] at t
    have a1 : k ≠ m := by omega
    have a2 : k < s 211 := by omega
    simp [h1, hc, a1, a2] at t
    rw [ek]
    exact t
  · intro H
    apply Nat.eq_of_testBit_eq
    intro k
    rw [Nat.zero_testBit, Nat.testBit_and, dn_tb, tf]
    by_cases h1 : k < m
    · cases h2 : dab s k with
      | false => simp
      | true =>
        by_cases h3 : c (ct s k) = h
        · have g := H (ct s k) (ct_lt h1 h2) h3
          rw [(ab_ct (by omega) h2).2] at g
          simp [g]
        · simp [h3]
    · simp [h1]
section GIVE
variable {b : Nat} {s : Sg} {L : Nat}
def GR (D : Da) (s : Sg) (L m : Nat) (c : Sg) : Prop := Gw D s ∧ D 91 0 = nI L ∧ (∀ h, h < 10 → D 96 h = nI (dn s c m h)) ∧ ∀ k, k < m → D 92 k = hv s c k
def fG (D D' : Da) : Prop := ∀ k, k ≠ 92 → k ≠ 96 → D' k = D k
theorem Gw.fg {D D' : Da} (h : Gw D s) (hf : fG D D') : Gw D' s := by
  unfold Gw at h ⊢
  rw [hf 91 (by omega) (by omega), hf 93 (by omega) (by omega), hf 94 (by omega) (by omega), hf 95 (by omega) (by omega)]
  exact h
theorem fG.tr {D D' D'' : Da} (h : fG D D') (h2 : fG D' D'') : fG D D'' := fun k a1 a2 => (h2 k a1 a2).trans (h k a1 a2)
/-- a beginning that is right so far, with the hands taken in their order -/
def PP (s : Sg) (L j : Nat) (c : Sg) : Prop := (∀ i, i < j → c i < L) ∧ (∀ i k, i < k → k < j → c i = c k → cpa s k i) ∧ ∀ i x, i < j → x < c i → ∃ k, k < j ∧ c k = x
def Gv (D' : Da) (s : Sg) (L j : Nat) (c : Sg) : Prop := ∃ c', GR D' s L (s 211) c' ∧ (∀ i, i < j → c' i = c i) ∧ Pr (cpa s) L (ct s (s 211)) c' ∧ ∀ i, j ≤ i → i < ct s (s 211) → ∀ h, h < c' i → ¬ Cpl (cpa s) L (ct s (s 211)) (i + 1) (sU c' i h)
theorem hv_up {c : Sg} {m k h : Nat} (hk : k < m) : hv s (sU c (ct s m) h) k = hv s c k := by
  unfold hv
  cases h2 : dab s k with
  | false => rfl
  | true => rw [sU_ne _ _ (by have := ct_lt hk h2; omega)]
theorem give (hV : Vd s) (hL : L ≤ 10) : ∀ dp m D c, m ≤ s 211 → s 211 - m < dp → GR D s L m c → PP s L (ct s m) c → ∃ D', fG D D' ∧ ((X1_giveFrom dp (wld b D) (b + 91) (nI m) = some (1, wld b D') ∧ Gv D' s L (ct s m) c) ∨ (X1_giveFrom dp (wld b D) (b + 91) (nI m) = some (0, wld b D') ∧ GR D' s L m c ∧ ¬ Cpl (cpa s) L (ct s (s 211)) (ct s m) c))
  | 0, m, D, c, hm, hd, _, _ => absurd hd (by omega)
  | dp + 1, m, D, c, hm, hd, hG, hP => by
    have h10 := hV.ln
    obtain ⟨⟨w6, wm⟩, g0, g96, g92⟩ := id hG
    show ∃ D', fG D D' ∧ ((X1_giveFrom_body (X1_giveFrom dp) (wld b D) (b + 91) (nI m) = some (1, wld b D') ∧ Gv D' s L (ct s m) c) ∨ (X1_giveFrom_body (X1_giveFrom dp) (wld b D) (b + 91) (nI m) = some (0, wld b D') ∧ GR D' s L m c ∧ ¬ Cpl (cpa s) L (ct s (s 211)) (ct s m) c))
    unfold X1_giveFrom_body
    by_cases c1 : m < s 211
    · simp (disch := omega) only [k_crw, Option.bind_some, f_crc, w6, nI_ltI, c1, if_true, f_crw, Nat.reduceAdd, lZ_f isA_c.2.2.2.2.1, (wm m c1).1, bI_0]
      cases hdm : dab s m with
      | false =>
        have hct : ct s (m + 1) = ct s m := by rw [ct_suc, hdm]; rfl
        have hf1 : fG D (du D 92 m (-6)) := fun k a1 a2 => du_row _ _ _ a1
        have hG1 : GR (du D 92 m (-6)) s L (m + 1) c := by
          refine ⟨hG.1.fg hf1, by rw [du_row _ _ _ (by omega)]; exact g0, fun h hh => by rw [du_row _ _ _ (by omega), dn_no hdm]; exact g96 h hh, fun k hk => ?_⟩
          by_cases e : k = m
          · rw [e, du_self]; unfold hv; rw [hdm]; rfl
          · rw [du_ne _ _ _ e]; exact g92 k (by omega)
        obtain ⟨D', i1, i2⟩ := give hV hL dp (m + 1) (du D 92 m (-6)) c (by omega) (by omega) hG1 (by rw [hct]; exact hP)
        rw [hct] at i2
        simp only [if_true, sA_f isA_c.2.2.2.1 (show m < 10 by omega), Option.bind_some, nI_1, c_1, nI_add]
        refine ⟨D', hf1.tr i1, ?_⟩
        rcases i2 with ⟨e1, e2⟩ | ⟨e1, e2, e3⟩
        · left
          refine ⟨?_, e2⟩
          rw [e1]
          rfl
        · right
          refine ⟨?_, ⟨e2.1, e2.2.1, fun h hh => by rw [← dn_no hdm]; exact e2.2.2.1 h hh, fun k hk => e2.2.2.2 k (by omega)⟩, e3⟩
          rw [e1]
          rfl
      | true =>
        obtain ⟨ja, jb⟩ := ab_ct c1 hdm
        have hct : ct s (m + 1) = ct s m + 1 := by rw [ct_suc, hdm]; rfl
        have fo := (wm m c1).2.2
        obtain ⟨p1, p2, p3⟩ := id hP
        rw [if_neg (by decide)]
        obtain ⟨e, l1, l2⟩ := wl_meas (step := un2 (X1_giveFrom_b37 (X1_giveFrom dp) (b + 91) (nI m))) (fun st => ∃ h Dh, st = (wld b Dh, nI h) ∧ h ≤ L ∧ fG D Dh ∧ GR Dh s L m c ∧ (∀ x, x < h → ¬ Cpl (cpa s) L (ct s (s 211)) (ct s m + 1) (sU c (ct s m) x)) ∧ ∀ x, x < h → ∃ i, i < ct s m ∧ c i = x) (fun st => 20 - st.2.toNatClampNeg) (fun e => ∃ D', fG D D' ∧ ((e = .inl (wld b D') ∧ Gv D' s L (ct s m) c) ∨ ((e = .inr (.inl (wld b D')) ∨ e = .inr (.inr (wld b D'))) ∧ GR D' s L m c ∧ ¬ Cpl (cpa s) L (ct s (s 211)) (ct s m) c))) (by
          rintro st ⟨h, Dh, rfl, hh, k1, k2, k3, k4⟩
          obtain ⟨⟨w6', wm'⟩, g0', g96', g92'⟩ := id k2
          by_cases c2 : h < L
          · have c3 : ¬ L ≤ h := by omega
            have idl : nI (dn s c m h) = 0 ↔ dn s c m h = 0 := nI_eq (b := 0) (by have := dn_lt s c m h; have := z_p12 (k := m) (by omega); omega) (by omega)
            have pm := z_p12 (k := m) (by omega)
            have dl := dn_lt s c m h
            have nx : ∀ D2, fG D D2 → GR D2 s L m c → ¬ Cpl (cpa s) L (ct s (s 211)) (ct s m + 1) (sU c (ct s m) h) → (∃ i, i < ct s m ∧ c i = h) → (∃ st', (some (.inl (wld b D2, nI (h + 1))) : Option ((Wo × Int32) ⊕ (Wo ⊕ (Wo ⊕ Wo)))) = some (.inl st') ∧ (∃ h Dh, st' = (wld b Dh, nI h) ∧ h ≤ L ∧ fG D Dh ∧ GR Dh s L m c ∧ (∀ x, x < h → ¬ Cpl (cpa s) L (ct s (s 211)) (ct s m + 1) (sU c (ct s m) x)) ∧ ∀ x, x < h → ∃ i, i < ct s m ∧ c i = x) ∧ 20 - st'.2.toNatClampNeg < 20 - (nI h).toNatClampNeg) := by
              intro D2 a1 a2 a3 a4
              refine ⟨_, rfl, ⟨h + 1, D2, rfl, by omega, a1, a2, fun x hx => ?_, fun x hx => ?_⟩, ?_⟩
              · by_cases e : x = h
                · rw [e]; exact a3
                · exact k3 x (by omega)
              · by_cases e : x = h
                · rw [e]; exact a4
                · exact k4 x (by omega)
              · show 20 - (nI (h + 1)).toNatClampNeg < 20 - (nI h).toNatClampNeg
                rw [nI_clamp (by omega), nI_clamp (by omega)]
                omega
            show (∃ st', X1_giveFrom_b37 (X1_giveFrom dp) (b + 91) (nI m) (wld b Dh) (nI h) = some (.inl st') ∧ _) ∨ ∃ e, X1_giveFrom_b37 (X1_giveFrom dp) (b + 91) (nI m) (wld b Dh) (nI h) = some (.inr e) ∧ _
            by_cases c5 : dn s c m h &&& fos s m = 0
            · have ok := (dn_fos c1).mp c5
              have eD : X1_giveFrom_b37 (X1_giveFrom dp) (b + 91) (nI m) (wld b Dh) (nI h) = ((X1_giveFrom dp (wld b (du (du Dh 96 h (nI (dn s c m h ||| 2 ^ m))) 92 m (nI h))) (b + 91) (nI (m + 1))).bind (un2 fun v33 M34 => if v33 = 0 then ((gR M34 (b + 91) 1 5).bind fun w35 => (lA M34 0 w35 (nI h)).bind fun v37 => (sA M34 w35 (nI h) (v37 &&& (nI (2 ^ m) ^^^ (-1 : Int32)))).bind fun M39 => X1_giveFrom_L121 (X1_giveFrom dp) M39 (b + 91) (nI m) (nI h) (if dn s c m h = 0 then 1 else 0)) else (some (.inr (.inl M34))))) := by
                simp (disch := omega) only [X1_giveFrom_b37, X1_giveFrom_L59, f_crc, g0', Option.bind_some, nI_leI, c3, if_false, f_crw, Nat.reduceAdd, lA_f isA_c.2.2.2.2.2.2.2, lA_f isA_c.2.2.2.2.2.2.1, g96', (wm' m c1).2.2, idl, z_and, c5, z_ors, sA_f isA_c.2.2.2.2.2.2.2, sA_f isA_c.2.2.2.1, nI_1, z_sh]
                by_cases c6 : dn s c m h = 0
                · rw [if_pos c6, if_pos c6, if_pos (show nI 0 = 0 from rfl), z_or]
                · rw [if_neg c6, if_neg c6, if_pos (show nI 0 = 0 from rfl), z_or]
              have hf1 : fG Dh (du (du Dh 96 h (nI (dn s c m h ||| 2 ^ m))) 92 m (nI h)) := fun k a1 a2 => by rw [du_row _ _ _ a1, du_row _ _ _ a2]
              have hG1 : GR (du (du Dh 96 h (nI (dn s c m h ||| 2 ^ m))) 92 m (nI h)) s L (m + 1) (sU c (ct s m) h) := by
                refine ⟨k2.1.fg hf1, by rw [hf1 91 (by omega) (by omega)]; exact g0', fun h' hh' => ?_, fun k hk => ?_⟩
                · rw [du_row _ _ _ (by omega), dn_up hdm]
                  by_cases e : h' = h
                  · rw [if_pos e, e, du_self]
                  · rw [if_neg e, du_ne _ _ _ e]; exact g96' h' hh'
                · by_cases e : k = m
                  · rw [e, du_self]; unfold hv; rw [hdm, sU_eq]; rfl
                  · rw [du_ne _ _ _ e, du_row _ _ _ (by omega), hv_up (by omega)]; exact g92' k (by omega)
              have hP1 : PP s L (ct s (m + 1)) (sU c (ct s m) h) := by
                rw [hct]
                refine ⟨fun i hi => ?_, fun i k hi hk e => ?_, fun i x hi hx => ?_⟩
                · by_cases e : i = ct s m
                  · rw [e, sU_eq]; exact c2
                  · rw [sU_ne _ _ e]; exact p1 i (by omega)
                · rw [sU_ne _ _ (by omega)] at e
                  by_cases e2 : k = ct s m
                  · rw [e2, sU_eq] at e
                    rw [e2]
                    show cpm s (ab s (ct s m)) (ab s i) = true
                    rw [jb]
                    exact ok i (by omega) e
                  · rw [sU_ne _ _ e2] at e
                    exact p2 i k hi (by omega) e
                · have z : ∀ y, (∃ k, k < ct s m ∧ c k = y) → ∃ k, k < ct s m + 1 ∧ sU c (ct s m) h k = y := fun y ⟨k, a1, a2⟩ => ⟨k, by omega, by rw [sU_ne _ _ (by omega)]; exact a2⟩
                  by_cases e : i = ct s m
                  · rw [e, sU_eq] at hx
                    exact z x (k4 x hx)
                  · rw [sU_ne _ _ e] at hx
                    exact z x (p3 i x (by omega) hx)
              obtain ⟨D', i1, i2⟩ := give hV hL dp (m + 1) _ (sU c (ct s m) h) (by omega) (by omega) hG1 hP1
              rw [hct] at i2
              rcases i2 with ⟨e1, c', e2, e3, e4, e5⟩ | ⟨e1, e2, e3⟩
              · right
                rw [eD, e1]
                refine ⟨_, rfl, D', k1.tr (hf1.tr i1), Or.inl ⟨rfl, c', e2, fun i hi => by rw [e3 i (by omega), sU_ne _ _ (by omega)], e4, fun i hi ha x hx => ?_⟩⟩
                by_cases e : i = ct s m
                · rw [e] at hx ⊢
                  rw [e3 _ (by omega), sU_eq] at hx
                  refine fun g => k3 x hx (g.cg (fun k hk => ?_))
                  by_cases e' : k = ct s m
                  · rw [e', sU_eq, sU_eq]
                  · rw [sU_ne _ _ e', sU_ne _ _ e', e3 k (by omega), sU_ne _ _ e']
                · exact e5 i (by omega) ha x hx
              · have z1 : D' 96 h = nI (dn s c m h ||| 2 ^ m) := by rw [e2.2.2.1 h (by omega), dn_up hdm, if_pos rfl]
                have z2 : (dn s c m h).testBit m = false := Nat.testBit_lt_two_pow dl
                have hf2 : fG D (du D' 96 h (nI (dn s c m h))) := (k1.tr (hf1.tr i1)).tr (fun k a1 a2 => du_row _ _ _ a2)
                have hG2 : GR (du D' 96 h (nI (dn s c m h))) s L m c := by
                  refine ⟨hG.1.fg hf2, by rw [hf2 91 (by omega) (by omega)]; exact g0, fun h' hh' => ?_, fun k hk => ?_⟩
                  · by_cases e : h' = h
                    · rw [e, du_self]
                    · rw [du_ne _ _ _ e, e2.2.2.1 h' hh', dn_up hdm, if_neg e]
                  · rw [du_row _ _ _ (by omega), e2.2.2.2 k (by omega), hv_up hk]
                rw [eD, e1]
                simp (disch := omega) only [Option.bind_some, un2, if_true, f_crw, Nat.reduceAdd, lA_f isA_c.2.2.2.2.2.2.2, z1, z_not, z_clr z2, sA_f isA_c.2.2.2.2.2.2.2, X1_giveFrom_L121]
                by_cases c6 : dn s c m h = 0
                · right
                  rw [if_pos c6, if_neg (by decide)]
                  have u0 := (dn_0 hm).mp c6
                  refine ⟨_, rfl, _, hf2, Or.inr ⟨Or.inl rfl, hG2, nC_idle ja c2 k3 e3 (fun y hy1 hy2 i hi hc => ?_)⟩⟩
                  by_cases e : y = h
                  · exact u0 i hi (by omega)
                  · obtain ⟨k, a1, a2⟩ := p3 i h hi (by omega)
                    exact u0 k a1 a2
                · left
                  rw [if_neg c6, if_pos rfl, nI_1]
                  refine nx _ hf2 hG2 e3 ?_
                  exact Classical.byContradiction (fun g => c6 ((dn_0 hm).mpr (fun i hi hc => g ⟨i, hi, hc⟩)))
            · left
              have cf : ∃ i, i < ct s m ∧ c i = h ∧ ¬ cpm s m (ab s i) = true := Classical.byContradiction (fun g => c5 ((dn_fos c1).mpr (fun i hi hc => Classical.byContradiction (fun g2 => g ⟨i, hi, hc, g2⟩))))
              obtain ⟨i, i1, i2, i3⟩ := cf
              have c6 : ¬ dn s c m h = 0 := fun g => (dn_0 hm).mp g i i1 i2
              have c5' : ¬ nI (dn s c m h &&& fos s m) = 0 := fun g => c5 ((nI_eq (b := 0) (by have : dn s c m h &&& fos s m ≤ dn s c m h := Nat.and_le_left; omega) (by omega)).mp g)
              have eD : X1_giveFrom_b37 (X1_giveFrom dp) (b + 91) (nI m) (wld b Dh) (nI h) = some (.inl (wld b Dh, nI (h + 1))) := by
                simp (disch := omega) only [X1_giveFrom_b37, X1_giveFrom_L59, f_crc, g0', Option.bind_some, nI_leI, c3, if_false, f_crw, Nat.reduceAdd, lA_f isA_c.2.2.2.2.2.2.2, lA_f isA_c.2.2.2.2.2.2.1, g96', (wm' m c1).2.2, idl, z_and, if_neg c5', if_neg c6, X1_giveFrom_L121, nI_1]
                rfl
              rw [eD]
              exact nx Dh k1 k2 (nC_conf ja i1 i2 (by show ¬ cpm s (ab s (ct s m)) (ab s i) = true; rw [jb]; exact i3)) ⟨i, i1, i2⟩
          · have c3 : L ≤ h := by omega
            right
            refine ⟨.inr (.inr (wld b Dh)), ?_, Dh, k1, Or.inr ⟨Or.inr rfl, k2, nC_all ja (fun x hx => k3 x (by omega))⟩⟩
            simp (disch := omega) only [un2, X1_giveFrom_b37, f_crc, g0', Option.bind_some, nI_leI, c3, if_true]) FU (wld b D, (0 : Int32)) ⟨0, D, rfl, by omega, fun _ _ _ => rfl, hG, fun x hx => absurd hx (by omega), fun x hx => absurd hx (by omega)⟩ (fu_lt (by show 20 - _ < _; omega))
        obtain ⟨D', f1, l3⟩ := l2
        rw [l1]
        refine ⟨D', f1, ?_⟩
        rcases l3 with ⟨rfl, e2⟩ | ⟨rfl | rfl, e2, e3⟩
        · exact Or.inl ⟨rfl, e2⟩
        · exact Or.inr ⟨rfl, e2, e3⟩
        · exact Or.inr ⟨rfl, e2, e3⟩
    · have e : m = s 211 := by omega
      subst e
      refine ⟨D, fun _ _ _ => rfl, Or.inl ⟨?_, c, hG, fun _ _ => rfl, ⟨hP.1, hP.2.1⟩, fun i h1 h2 => absurd h2 (by omega)⟩⟩
      simp (disch := omega) only [k_crw, Option.bind_some, f_crc, w6, nI_ltI, c1, if_false]
def z0 : Sg := fun _ => 0
theorem ct_0 (s : Sg) : ct s 0 = 0 := rfl
theorem PP_0 (s : Sg) (L : Nat) : PP s L 0 z0 := ⟨fun i hi => absurd hi (by omega), fun i k hi hk => absurd hk (by omega), fun i x hi => absurd hi (by omega)⟩
theorem Cpl_a (s : Sg) {L : Nat} (h : ct s (s 211) ≤ L) : Cpl (cpa s) L (ct s (s 211)) 0 z0 := ⟨fun k => k, ⟨fun k hk => Nat.lt_of_lt_of_le hk h, fun i k hi _ e => absurd (show i = k from e) (by omega)⟩, fun k hk => absurd hk (by omega)⟩
def Gd9 (D : Da) (s : Sg) (L : Nat) (c : Sg) : Prop := GR D s L (s 211) c ∧ LF (cpa s) L (ct s (s 211)) c ∧ L ≤ s 211 ∧ ∀ x, x < L → ¬ Cpl (cpa s) x (ct s (s 211)) 0 z0
theorem Gv.lf {D : Da} (h : Gv D s L 0 z0) (hL : L ≤ s 211) (hx : ∀ x, x < L → ¬ Cpl (cpa s) x (ct s (s 211)) 0 z0) : ∃ c, Gd9 D s L c := by
  obtain ⟨c, h1, h2, h3, h4⟩ := h
  exact ⟨c, h1, ⟨h3, fun j hj h hh => h4 j (by omega) hj h hh⟩, hL, hx⟩
theorem gloop (hV : Vd s) : ∀ k L D, L + k = s 211 → GR D s L 0 z0 → (∀ x, x ≤ L → ¬ Cpl (cpa s) x (ct s (s 211)) 0 z0) → ∀ f, k + 1 < f → ∃ D' L' c, wloop (un2 (X1_gather_b99 (b + 91))) f (wld b D, (0 : Int32)) = some (wld b D') ∧ (∀ k, k ≠ 91 → k ≠ 92 → k ≠ 96 → D' k = D k) ∧ Gd9 D' s L' c
  | 0, L, D, hk, _, hx, _, _ => absurd (Cpl_a s (L := L) (by have := cN_le (dab s) (s 211); unfold ct; omega)) (hx L (Nat.le_refl L))
  | k + 1, L, D, hk, hG, hx, f, hf => by
    have h10 := hV.ln
    obtain ⟨f, rfl⟩ : ∃ f', f = f' + 1 := ⟨f - 1, by omega⟩
    obtain ⟨⟨w6, wm⟩, g0, g96, g92⟩ := id hG
    have hG1 : GR (du D 91 0 (nI (L + 1))) s (L + 1) 0 z0 := by
      refine ⟨⟨by rw [du_ne _ _ _ (by omega)]; exact w6, fun m hm => by rw [du_row _ _ _ (by omega), du_row _ _ _ (by omega), du_row _ _ _ (by omega)]; exact wm m hm⟩, du_self _ _ _ _, fun h hh => by rw [du_row _ _ _ (by omega)]; exact g96 h hh, fun k hk => absurd hk (by omega)⟩
    obtain ⟨D', i1, i2⟩ := give (b := b) hV (L := L + 1) (by omega) 14 0 _ z0 (by omega) (by omega) hG1 (PP_0 s (L + 1))
    have c1 : ¬ s 211 ≤ L := by omega
    have st : ∀ v, X1_giveFrom 14 (wld b (du D 91 0 (nI (L + 1)))) (b + 91) (nI 0) = some (v, wld b D') → un2 (X1_gather_b99 (b + 91)) (wld b D, (0 : Int32)) = some (.inl (wld b D', v)) := by
      intro v hv
      simp (disch := omega) only [un2, X1_gather_b99, if_true, f_crc, g0, w6, Option.bind_some, nI_leI, c1, if_false, p_crc, nI_1]
      rw [c_0, hv]
      rfl
    have fr : ∀ k, k ≠ 91 → k ≠ 92 → k ≠ 96 → D' k = D k := fun k a1 a2 a3 => by rw [i1 k a2 a3, du_row _ _ _ a1]
    rcases i2 with ⟨e1, e2⟩ | ⟨e1, e2, e3⟩
    · obtain ⟨c, hc⟩ := e2.lf (by omega) (fun x hx' => hx x (by omega))
      refine ⟨D', L + 1, c, ?_, fr, hc⟩
      rw [wl_in (st 1 e1)]
      obtain ⟨f, rfl⟩ : ∃ f', f = f' + 1 := ⟨f - 1, by omega⟩
      exact wl_out rfl
    · obtain ⟨D2, L2, c, g1, g2, g3⟩ := gloop hV k (L + 1) D' (by omega) e2 (fun x hx' => by
        by_cases e : x = L + 1
        · rw [e]; exact e3
        · exact hx x (by omega)) f (by omega)
      exact ⟨D2, L2, c, by rw [wl_in (st 0 e1)]; exact g1, fun k a1 a2 a3 => by rw [g2 k a1 a2 a3, fr k a1 a2 a3], g3⟩
theorem X1_gather_s {d : Da} (hR : StR d 1 s) (hV : Vd s) : ∃ D L c, X1_gather (wld b d) (b + 91) (b + 1) (b + 79) = some (wld b D) ∧ cS d D ∧ Gd9 D s L c := by
  have h10 := hV.ln
  obtain ⟨D0, h1, h2, h3, h4, h5⟩ := gather1 (b := b) hR hV
  rw [h5]
  have hG0 : GR D0 s 0 0 z0 := ⟨h2, h3, fun h hh => by rw [h4 h hh]; rfl, fun k hk => absurd hk (by omega)⟩
  obtain ⟨D', i1, i2⟩ := give (b := b) hV (L := 0) (by omega) 14 0 _ z0 (by omega) (by omega) hG0 (PP_0 s 0)
  have fr : cS d D' := fun k hk => by rw [i1 k (by omega) (by omega)]; exact h1 k hk
  rcases i2 with ⟨e1, e2⟩ | ⟨e1, e2, e3⟩
  · obtain ⟨c, hc⟩ := e2.lf (by omega) (fun x hx' => absurd hx' (by omega))
    refine ⟨D', 0, c, ?_, fr, hc⟩
    rw [show X1_giveFrom 14 (wld b D0) (b + 91) 0 = some (1, wld b D') from e1]
    show (wloop (un2 (X1_gather_b99 (b + 91))) FU (wld b D', (1 : Int32))).bind _ = _
    rw [wl_count (fun _ => (wld b D', (1 : Int32))) 0 (wld b D') (fun i hi => absurd hi (by omega)) rfl (by omega) rfl]
    rfl
  · obtain ⟨D2, L2, c, g1, g2, g3⟩ := gloop (b := b) hV (s 211) 0 D' (by omega) e2 (fun x hx' => by rw [show x = 0 by omega]; exact e3) FU (fu_lt (n := s 211 + 1) (by omega))
    refine ⟨D2, L2, c, ?_, fun k hk => by rw [g2 k (by omega) (by omega) (by omega)]; exact fr k hk, g3⟩
    rw [show X1_giveFrom 14 (wld b D0) (b + 91) 0 = some (0, wld b D') from e1]
    show (wloop (un2 (X1_gather_b99 (b + 91))) FU (wld b D', (0 : Int32))).bind _ = _
    rw [g1]
    rfl
end GIVE
