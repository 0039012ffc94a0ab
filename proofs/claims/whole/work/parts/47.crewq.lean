/-! CREW, TOLD -/
/-- how many of hand h begin before t -/
def rkh (s c : Sg) (h t : Nat) : Nat := cN (fun j => decide (c j = h) && decide (s (181 + ab s j) < t)) (ct s (s 211))
def hit9 (s c : Sg) (h : Nat) (x : Int32) (j : Nat) : Prop := j < ct s (s 211) ∧ c j = h ∧ nI (rkh s c h (s (181 + ab s j))) = x
theorem rkh_le {s : Sg} (hV : Vd s) (c : Sg) (h t : Nat) : rkh s c h t ≤ 10 := by
  have := cN_le (fun j => decide (c j = h) && decide (s (181 + ab s j) < t)) (ct s (s 211))
  have := ct_le hV
  unfold rkh
  omega
theorem one_b {s : Sg} (hV : Vd s) {L : Nat} {c : Sg} (hp : Pr (cpa s) L (ct s (s 211)) c) {i j : Nat} (hi : i < ct s (s 211)) (hj : j < ct s (s 211)) (hc : c i = c j) (hb : s (181 + ab s i) = s (181 + ab s j)) : i = j := by
  have key : ∀ i j, i < j → j < ct s (s 211) → c i = c j → s (181 + ab s i) = s (181 + ab s j) → False := by
    intro i j hij hj hc hb
    have h1 : cpm s (ab s j) (ab s i) = true := hp.2 i j hij hj hc
    have a1 := (ab_ok (s := s) (j := i) (by omega)).1
    have a2 := (ab_ok hj).1
    have a3 := ab_lt hij hj
    have e1 := (eT_ok hV a1).1
    have e2 := (eT_ok hV a2).1
    unfold cpm rch at h1
    simp at h1
    have hd : dst s (ab s j) (ab s i) = 0 := by
      rw [dst_c s (ab s i)] at h1
      omega
    unfold dst at hd
    have := hV.un a1 a2 (by omega) hb
    omega
  rcases Nat.lt_trichotomy i j with g | g | g
  · exact absurd (key i j g hj hc hb) id
  · exact g
  · exact absurd (key j i g hi hc.symm hb.symm) id
theorem hit_uq {s : Sg} (hV : Vd s) {L : Nat} {c : Sg} (hp : Pr (cpa s) L (ct s (s 211)) c) {h : Nat} {x : Int32} {i j : Nat} (hi : hit9 s c h x i) (hj : hit9 s c h x j) : i = j := by
  have e : rkh s c h (s (181 + ab s i)) = rkh s c h (s (181 + ab s j)) := by
    have h1 := rkh_le hV c h (s (181 + ab s i))
    have h2 := rkh_le hV c h (s (181 + ab s j))
    exact (nI_eq (by omega) (by omega)).mp (hi.2.2.trans hj.2.2.symm)
  have key : ∀ i j, i < ct s (s 211) → c i = h → s (181 + ab s i) < s (181 + ab s j) → rkh s c h (s (181 + ab s i)) < rkh s c h (s (181 + ab s j)) := by
    intro i j h1 h2 h3
    have : ∀ n, i < n → cN (fun k => decide (c k = h) && decide (s (181 + ab s k) < s (181 + ab s i))) n < cN (fun k => decide (c k = h) && decide (s (181 + ab s k) < s (181 + ab s j))) n := by
      intro n
      induction n with
      | zero => intro g; omega
      | succ n ih =>
        intro g
        rw [cN_succ, cN_succ]
        by_cases e : i = n
        · subst e
          have m := cN_mono (p := fun k => decide (c k = h) && decide (s (181 + ab s k) < s (181 + ab s i))) (q := fun k => decide (c k = h) && decide (s (181 + ab s k) < s (181 + ab s j))) i (fun k _ hk => by simp at hk ⊢; exact ⟨hk.1, by omega⟩)
          simp [h2, h3]
          omega
        · have ih := ih (by omega)
          by_cases g1 : c n = h ∧ s (181 + ab s n) < s (181 + ab s i)
          · have g2 : s (181 + ab s n) < s (181 + ab s j) := by omega
            simp [g1.1, g1.2, g2]
            exact ih
          · have : (decide (c n = h) && decide (s (181 + ab s n) < s (181 + ab s i))) = false := by simpa using g1
            rw [this]
            simp only [Bool.false_eq_true, if_false]
            split <;> omega
    exact this _ h1
  refine one_b hV hp hi.1 hj.1 (hi.2.1.trans hj.2.1.symm) ?_
  rcases Nat.lt_trichotomy (s (181 + ab s i)) (s (181 + ab s j)) with g | g | g
  · have := key i j hi.1 hi.2.1 g; omega
  · exact g
  · have := key j i hj.1 hj.2.1 g; omega
section CREWQ
variable {b : Nat} {d : Da} {s : Sg} {L : Nat} {c : Sg}
theorem hv_eq (hV : Vd s) (hc : ∀ i, i < ct s (s 211) → c i < 10) {m h : Nat} (hm : m < s 211) (hh : h < 10) : hv s c m = nI h ↔ dab s m = true ∧ c (ct s m) = h := by
  unfold hv
  cases hd : dab s m with
  | false =>
    rw [if_neg (by decide)]
    refine ⟨fun g => ?_, fun g => absurd g.1 (by decide)⟩
    exact absurd (nI_pos' (n := h) (by omega)) (by rw [← g]; decide)
  | true =>
    rw [if_pos rfl, nI_eq (by have := hc _ (ab_ct hm hd).1; omega) (by omega)]
    simp
theorem X1_turnsAhead_s {D : Da} {m h : Nat} (hR : StR D 1 s) (hV : Vd s) (hG : GR D s L (s 211) c) (hc : ∀ i, i < ct s (s 211) → c i < 10) (hm : m < s 211) (hh : h < 10) (hd : dab s m = true) (hcm : c (ct s m) = h) : X1_turnsAhead (wld b D) (b + 91) (b + 1) (nI m) = some (nI (rkh s c h (s (181 + m)))) := by
  have h10 := hV.ln
  obtain ⟨⟨w6, wm⟩, g0, g96, g92⟩ := id hG
  have em : hv s c m = nI h := (hv_eq hV hc hm hh).mpr ⟨hd, hcm⟩
  unfold X1_turnsAhead
  have er : rkh s c h (s (181 + m)) = cN (fun k => dab s k && (decide (c (ct s k) = h) && decide (s (181 + k) < s (181 + m)))) (s 211) := by
    rw [cN_ab _ _ (Nat.le_refl _)]
    exact cN_cg _ (fun j hj => by rw [(ab_ok hj).2.2])
  rw [er, k_crw, Option.bind_some, wl_count (fun k => (nI (cN (fun k => dab s k && (decide (c (ct s k) = h) && decide (s (181 + k) < s (181 + m)))) k), nI k)) (s 211) (nI (cN (fun k => dab s k && (decide (c (ct s k) = h) && decide (s (181 + k) < s (181 + m)))) (s 211))) ?_ ?_ (by omega) ?_]
  · rfl
  · intro k hk
    have c1 : ¬ s 211 ≤ k := by omega
    have b1 := hV.bg (m := k) (by omega)
    have b2 := hV.bg (m := m) (by omega)
    have ek := hv_eq hV hc hk hh
    simp (disch := omega) only [un2, X1_turnsAhead_b5, f_crc, w6, Option.bind_some, nI_leI, c1, if_false, f_crw, Nat.reduceAdd, lA_f isA_c.2.2.2.1, g92 k hk, g92 m hm, em, f_movs isS_1, f_mov isS_1, f_mv isS_1, hR.m1 hk, hR.m1 hm, nI_1, cN_succ]
    by_cases g : hv s c k = nI h
    · obtain ⟨d1, d2⟩ := ek.mp g
      rw [if_pos g, d1, d2]
      by_cases g3 : s (181 + m) ≤ s (181 + k)
      · have g4 : ¬ s (181 + k) < s (181 + m) := by omega
        simp [g3, g4]
      · have g4 : s (181 + k) < s (181 + m) := by omega
        simp [g3, g4]
    · rw [if_neg g]
      have : (dab s k && (decide (c (ct s k) = h) && decide (s (181 + k) < s (181 + m)))) = false := by
        cases d1 : dab s k with
        | false => rfl
        | true =>
          by_cases d2 : c (ct s k) = h
          · exact absurd (ek.mpr ⟨d1, d2⟩) g
          · simp [d2]
      rw [this]
      simp
  · simp (disch := omega) only [un2, X1_turnsAhead_b5, f_crc, w6, Option.bind_some, nI_leI, Nat.le_refl, if_true]
  · rfl
theorem X1_turn_s {D : Da} {h : Nat} {x : Int32} (hR : StR D 1 s) (hV : Vd s) (hG : GR D s L (s 211) c) (hc : ∀ i, i < ct s (s 211) → c i < 10) (hh : h < 10) : (∃ j, hit9 s c h x j ∧ X1_turn (wld b D) (b + 91) (b + 1) (nI h) x = some (nI (ab s j))) ∨ ((∀ j, ¬ hit9 s c h x j) ∧ X1_turn (wld b D) (b + 91) (b + 1) (nI h) x = some (-6)) := by
  have h10 := hV.ln
  obtain ⟨⟨w6, wm⟩, g0, g96, g92⟩ := id hG
  unfold X1_turn
  rw [k_crw, Option.bind_some]
  have st : ∀ m, m < s 211 → (hit9 s c h x (ct s m) ∧ dab s m = true ∧ X1_turn_b3 (wld b D) (b + 91) (b + 1) (nI h) x (nI m) = some (.inr (.inl (nI m)))) ∨ (¬ (dab s m = true ∧ hit9 s c h x (ct s m)) ∧ X1_turn_b3 (wld b D) (b + 91) (b + 1) (nI h) x (nI m) = some (.inl (nI (m + 1)))) := by
    intro m hm
    have c1 : ¬ s 211 ≤ m := by omega
    have ek := hv_eq hV hc hm hh
    by_cases g : hv s c m = nI h
    · obtain ⟨d1, d2⟩ := ek.mp g
      obtain ⟨a1, a2⟩ := ab_ct hm d1
      have e := X1_turnsAhead_s (b := b) hR hV hG hc hm hh d1 d2
      by_cases g2 : nI (rkh s c h (s (181 + m))) = x
      · left
        refine ⟨⟨a1, d2, by rw [a2]; exact g2⟩, d1, ?_⟩
        simp (disch := omega) only [X1_turn_b3, f_crc, w6, Option.bind_some, nI_leI, c1, if_false, f_crw, Nat.reduceAdd, lA_f isA_c.2.2.2.1, g92 m hm, g, if_true, e, g2]
      · right
        refine ⟨fun q => g2 (by have := q.2.2.2; rw [a2] at this; exact this), ?_⟩
        simp (disch := omega) only [X1_turn_b3, f_crc, w6, Option.bind_some, nI_leI, c1, if_false, f_crw, Nat.reduceAdd, lA_f isA_c.2.2.2.1, g92 m hm, g, if_true, e, g2, nI_1]
    · right
      refine ⟨fun q => g (ek.mpr ⟨q.1, q.2.2.1⟩), ?_⟩
      simp (disch := omega) only [X1_turn_b3, f_crc, w6, Option.bind_some, nI_leI, c1, if_false, f_crw, Nat.reduceAdd, lA_f isA_c.2.2.2.1, g92 m hm, g, nI_1]
  obtain ⟨e, l1, l2⟩ := wl_idx (step := un1 (X1_turn_b3 (wld b D) (b + 91) (b + 1) (nI h) x)) (fun n st => ∃ m, st = nI m ∧ m + n = s 211 ∧ ∀ k, k < m → ¬ (dab s k = true ∧ hit9 s c h x (ct s k))) (fun e => (∃ j, hit9 s c h x j ∧ e = .inl (nI (ab s j))) ∨ ((∀ j, ¬ hit9 s c h x j) ∧ e = .inr ())) (by
      rintro n st' ⟨m, rfl, m1, m2⟩
      show (∃ n' st', n' < n ∧ X1_turn_b3 (wld b D) (b + 91) (b + 1) (nI h) x (nI m) = some (.inl st') ∧ _) ∨ ∃ e, X1_turn_b3 (wld b D) (b + 91) (b + 1) (nI h) x (nI m) = some (.inr e) ∧ _
      by_cases c1 : m < s 211
      · rcases st m c1 with ⟨q1, q2, q3⟩ | ⟨q1, q2⟩
        · right
          exact ⟨_, q3, Or.inl ⟨_, q1, by rw [(ab_ct c1 q2).2]⟩⟩
        · left
          refine ⟨n - 1, _, by omega, q2, m + 1, rfl, by omega, fun k hk => ?_⟩
          by_cases e : k = m
          · rw [e]; exact q1
          · exact m2 k (by omega)
      · right
        have e : m = s 211 := by omega
        subst e
        refine ⟨.inr (), ?_, Or.inr ⟨fun j hj => ?_, rfl⟩⟩
        · simp (disch := omega) only [X1_turn_b3, f_crc, w6, Option.bind_some, nI_leI, Nat.le_refl, if_true]
        · obtain ⟨a1, a2, a3⟩ := ab_ok hj.1
          exact m2 (ab s j) a1 ⟨a2, by rw [a3]; exact hj⟩) (s 211) (nI 0) ⟨0, rfl, by omega, fun k hk => absurd hk (by omega)⟩ FU (fu_lt (by omega))
  rw [show wloop (un1 (X1_turn_b3 (wld b D) (b + 91) (b + 1) (nI h) x)) FU (0 : Int32) = some e from l1]
  rcases l2 with ⟨j, h1, rfl⟩ | ⟨h1, rfl⟩
  · exact Or.inl ⟨j, h1, rfl⟩
  · exact Or.inr ⟨h1, rfl⟩
theorem X8_crew_s {D : Da} {h : Nat} {x : Int32} (hM : M8 D s) (hV : Vd s) (hB : Mb D s) (hp : Pr (cpa s) L (ct s (s 211)) c) (hL : L ≤ 10) (hD : ∀ i, i < ct s (s 211) → D 254 i = nI (c i)) (hh : h < 10) : (∃ j, hit9 s c h x j ∧ wloop (un2 (X8_crew_b22 (wld b D) (b + 243) (nI h) x)) FU ((0 : Int32), (0 : Int32)) = some (.inl (nI j))) ∨ ((∀ j, ¬ hit9 s c h x j) ∧ wloop (un2 (X8_crew_b22 (wld b D) (b + 243) (nI h) x)) FU ((0 : Int32), (0 : Int32)) = some (.inr ())) := by
  have h10 := hV.ln
  have h11 := ct_le hV
  have ks : ∀ t, rkh s c h (t + 1) = rkh s c h t + cN (fun j => decide (c j = h) && decide (s (181 + ab s j) = t)) (ct s (s 211)) := by
    intro t
    unfold rkh
    have : ∀ n, cN (fun j => decide (c j = h) && decide (s (181 + ab s j) < t + 1)) n = cN (fun j => decide (c j = h) && decide (s (181 + ab s j) < t)) n + cN (fun j => decide (c j = h) && decide (s (181 + ab s j) = t)) n := by
      intro n
      induction n with
      | zero => rfl
      | succ n ih =>
        rw [cN_succ, cN_succ, cN_succ, ih]
        by_cases g1 : c n = h
        · by_cases g2 : s (181 + ab s n) < t
          · have g3 : s (181 + ab s n) < t + 1 := by omega
            have g4 : ¬ s (181 + ab s n) = t := by omega
            simp [g1, g2, g3, g4]
            omega
          · by_cases g4 : s (181 + ab s n) = t
            · have g3 : s (181 + ab s n) < t + 1 := by omega
              simp [g1, g4]
              omega
            · have g3 : ¬ s (181 + ab s n) < t + 1 := by omega
              simp [g1, g2, g3, g4]
        · simp [g1]
    exact this _
  have inner : ∀ t, t ≤ 200 → (∃ j, hit9 s c h x j ∧ wloop (un2 (X8_crew_b33 (wld b D) (b + 243) (nI h) x (nI t))) FU (nI (rkh s c h t), (0 : Int32)) = some (.inl (nI j))) ∨ ((∀ j, s (181 + ab s j) = t → ¬ hit9 s c h x j) ∧ wloop (un2 (X8_crew_b33 (wld b D) (b + 243) (nI h) x (nI t))) FU (nI (rkh s c h t), (0 : Int32)) = some (.inr (nI (rkh s c h (t + 1))))) := by
    intro t ht
    have rb := rkh_le hV c h t
    obtain ⟨e, l1, l2⟩ := wl_idx (step := un2 (X8_crew_b33 (wld b D) (b + 243) (nI h) x (nI t))) (fun n st => ∃ j, st = (nI (rkh s c h t + cN (fun j => decide (c j = h) && decide (s (181 + ab s j) = t)) j), nI j) ∧ j + n = ct s (s 211) ∧ ∀ i, i < j → s (181 + ab s i) = t → ¬ hit9 s c h x i) (fun e => (∃ j, hit9 s c h x j ∧ e = .inl (nI j)) ∨ ((∀ j, s (181 + ab s j) = t → ¬ hit9 s c h x j) ∧ e = .inr (nI (rkh s c h (t + 1))))) (by
        rintro n st' ⟨j, rfl, j1, j2⟩
        show (∃ n' st', n' < n ∧ X8_crew_b33 (wld b D) (b + 243) (nI h) x (nI t) (nI (rkh s c h t + cN (fun j => decide (c j = h) && decide (s (181 + ab s j) = t)) j)) (nI j) = some (.inl st') ∧ _) ∨ ∃ e, X8_crew_b33 (wld b D) (b + 243) (nI h) x (nI t) (nI (rkh s c h t + cN (fun j => decide (c j = h) && decide (s (181 + ab s j) = t)) j)) (nI j) = some (.inr e) ∧ _
        by_cases c1 : j < ct s (s 211)
        · have c2 : ¬ ct s (s 211) ≤ j := by omega
          have cl := hp.1 j c1
          have a1 := (ab_ok c1).1
          have bj := hV.bg (m := ab s j) (by omega)
          have sb := X8_begin_s (b := b) hM hV hB c1
          have es : ∀ v, (decide (c j = h) && decide (s (181 + ab s j) = t)) = v → cN (fun j => decide (c j = h) && decide (s (181 + ab s j) = t)) (j + 1) = cN (fun j => decide (c j = h) && decide (s (181 + ab s j) = t)) j + (if v then 1 else 0) := fun v hv => by rw [cN_succ, hv]
          by_cases g1 : c j = h
          · by_cases g2 : s (181 + ab s j) = t
            · have z : cN (fun j => decide (c j = h) && decide (s (181 + ab s j) = t)) j = 0 := Classical.byContradiction (fun q => by
                obtain ⟨i, i1, i2⟩ := cN_pos _ q
                simp at i2
                have := one_b hV hp (i := i) (j := j) (by omega) c1 (by omega) (by omega)
                omega)
              by_cases g3 : nI (rkh s c h t) = x
              · right
                refine ⟨.inl (nI j), ?_, Or.inl ⟨j, ⟨c1, g1, by rw [g2]; exact g3⟩, rfl⟩⟩
                rw [z]
                simp (disch := omega) only [X8_crew_b33, f_mdc, hB.1, Option.bind_some, nI_leI, c2, if_false, m_ha, lA_f isA_m.2.2.2.2.2.2.2.2.2.2, hD j c1, nI_eq, g1, if_true, sb, g2, Nat.add_zero, g3]
              · left
                refine ⟨n - 1, (nI (rkh s c h t + cN (fun j => decide (c j = h) && decide (s (181 + ab s j) = t)) (j + 1)), nI (j + 1)), by omega, ?_, j + 1, rfl, by omega, fun i hi hb hh' => ?_⟩
                · rw [es true (by simp [g1, g2]), z]
                  simp (disch := omega) only [X8_crew_b33, f_mdc, hB.1, Option.bind_some, nI_leI, c2, if_false, m_ha, lA_f isA_m.2.2.2.2.2.2.2.2.2.2, hD j c1, nI_eq, g1, if_true, sb, g2, Nat.add_zero, g3, nI_1, Nat.zero_add]
                · by_cases e : i = j
                  · rw [e] at hh'
                    have := hh'.2.2
                    rw [g2] at this
                    exact g3 this
                  · exact j2 i (by omega) hb hh'
            · left
              refine ⟨n - 1, (nI (rkh s c h t + cN (fun j => decide (c j = h) && decide (s (181 + ab s j) = t)) (j + 1)), nI (j + 1)), by omega, ?_, j + 1, rfl, by omega, fun i hi hb hh' => ?_⟩
              · rw [es false (by simp [g2])]
                simp (disch := omega) only [X8_crew_b33, f_mdc, hB.1, Option.bind_some, nI_leI, c2, if_false, m_ha, lA_f isA_m.2.2.2.2.2.2.2.2.2.2, hD j c1, nI_eq, g1, if_true, sb, g2, Nat.add_zero, nI_1, Bool.false_eq_true]
              · by_cases e : i = j
                · rw [e] at hb; exact g2 hb
                · exact j2 i (by omega) hb hh'
          · left
            refine ⟨n - 1, (nI (rkh s c h t + cN (fun j => decide (c j = h) && decide (s (181 + ab s j) = t)) (j + 1)), nI (j + 1)), by omega, ?_, j + 1, rfl, by omega, fun i hi hb hh' => ?_⟩
            · rw [es false (by simp [g1])]
              simp (disch := omega) only [X8_crew_b33, f_mdc, hB.1, Option.bind_some, nI_leI, c2, if_false, m_ha, lA_f isA_m.2.2.2.2.2.2.2.2.2.2, hD j c1, nI_eq, g1, Nat.add_zero, nI_1, Bool.false_eq_true]
            · by_cases e : i = j
              · rw [e] at hh'; exact g1 hh'.2.1
              · exact j2 i (by omega) hb hh'
        · right
          have e : j = ct s (s 211) := by omega
          subst e
          refine ⟨.inr (nI (rkh s c h (t + 1))), ?_, Or.inr ⟨fun i hb hh' => j2 i hh'.1 hb hh', rfl⟩⟩
          rw [ks t]
          simp (disch := omega) only [X8_crew_b33, f_mdc, hB.1, Option.bind_some, nI_leI, Nat.le_refl, if_true]) (ct s (s 211)) (nI (rkh s c h t), (0 : Int32)) ⟨0, rfl, by omega, fun i hi => absurd hi (by omega)⟩ FU (fu_lt (by omega))
    rcases l2 with ⟨j, h1, rfl⟩ | ⟨h1, rfl⟩
    · exact Or.inl ⟨j, h1, l1⟩
    · exact Or.inr ⟨h1, l1⟩
  obtain ⟨e, l1, l2⟩ := wl_idx (step := un2 (X8_crew_b22 (wld b D) (b + 243) (nI h) x)) (fun n st => ∃ t, st = (nI (rkh s c h t), nI t) ∧ t + n = 201 ∧ ∀ j, s (181 + ab s j) < t → ¬ hit9 s c h x j) (fun e => (∃ j, hit9 s c h x j ∧ e = .inl (nI j)) ∨ ((∀ j, ¬ hit9 s c h x j) ∧ e = .inr ())) (by
      rintro n st' ⟨t, rfl, t1, t2⟩
      show (∃ n' st', n' < n ∧ X8_crew_b22 (wld b D) (b + 243) (nI h) x (nI (rkh s c h t)) (nI t) = some (.inl st') ∧ _) ∨ ∃ e, X8_crew_b22 (wld b D) (b + 243) (nI h) x (nI (rkh s c h t)) (nI t) = some (.inr e) ∧ _
      by_cases c1 : t ≤ 200
      · have c2 : ¬ 200 < t := by omega
        rcases inner t c1 with ⟨j, i1, i2⟩ | ⟨i1, i2⟩
        · right
          refine ⟨.inl (nI j), ?_, Or.inl ⟨j, i1, rfl⟩⟩
          simp (disch := omega) only [X8_crew_b22, c_200, nI_ltI, c2, if_false, i2, Option.bind_some]
          rfl
        · left
          refine ⟨n - 1, (nI (rkh s c h (t + 1)), nI (t + 1)), by omega, ?_, t + 1, rfl, by omega, fun j hj => ?_⟩
          · simp (disch := omega) only [X8_crew_b22, c_200, nI_ltI, c2, if_false, i2, Option.bind_some]
            show some (Sum.inl (nI (rkh s c h (t + 1)), nI t + 1)) = _
            rw [nI_1]
          · by_cases e : s (181 + ab s j) = t
            · exact i1 j e
            · exact t2 j (by omega)
      · right
        have c2 : 200 < t := by omega
        refine ⟨.inr (), ?_, Or.inr ⟨fun j hj => ?_, rfl⟩⟩
        · simp (disch := omega) only [X8_crew_b22, c_200, nI_ltI, c2, if_true]
        · have a1 := (ab_ok hj.1).1
          have bj := hV.bg (m := ab s j) (by omega)
          exact t2 j (by omega) hj) 201 ((0 : Int32), (0 : Int32)) ⟨0, by
        have : rkh s c h 0 = 0 := Classical.byContradiction (fun q => by
          obtain ⟨i, i1, i2⟩ := cN_pos _ q
          simp at i2)
        rw [this]
        rfl, by omega, fun j hj => absurd hj (by omega)⟩ FU (fu_lt (by omega))
  rcases l2 with ⟨j, h1, rfl⟩ | ⟨h1, rfl⟩
  · exact Or.inl ⟨j, h1, l1⟩
  · exact Or.inr ⟨h1, l1⟩
/-- both sides have the same crew -/
theorem same_crew (hJ : Iv d s) : ∃ D D' L c, X1_gather (wld b d) (b + 91) (b + 1) (b + 79) = some (wld b D) ∧ X8_layCrew (wld b D) (b + 243) = some (wld b D') ∧ cS d D ∧ Iv D' s ∧ GR D s L (s 211) c ∧ Mb D' s ∧ Pr (cpa s) L (ct s (s 211)) c ∧ L ≤ 10 ∧ ∀ i, i < ct s (s 211) → D' 254 i = nI (c i) := by
  obtain ⟨hV, hR, hM, -⟩ := id hJ
  have h10 := hV.ln
  obtain ⟨D, L, c, e1, e2, e3⟩ := X1_gather_s (b := b) hR hV
  obtain ⟨D', L', c', f1, f2, f3, f4, f5, f6, f7⟩ := X8_layCrew_s (b := b) (hM.cs e2) hV
  have eL : L = L' := Mnum e3.2.1 e3.2.2.2 ⟨c', f4.1, fun k hk => absurd hk (by omega)⟩ f7
  subst eL
  have u := LF.uq e3.2.1 f4 _ (Nat.le_refl _)
  exact ⟨D, D', L, c, e1, f1, e2, hJ.q e2 f2, e3.1, f3, e3.2.1.1, by have := e3.2.2.1; omega, fun i hi => by rw [f5 i hi, u i hi]⟩
theorem q_crew (hJ : Iv d s) (x1 x2 : Int32) : ∃ r d1 d2, X7_crew (wld b d) b x1 x2 = some (r, wld b d1) ∧ X8_crew (wld b d1) (b + 243) x1 x2 = some (r, wld b d2) ∧ Iv d2 s := by
  obtain ⟨hV, hR, hM, -⟩ := id hJ
  unfold X7_crew X8_crew
  simp only [k_top, k_mod, Option.bind_some, X7_within_s, X8_in_s]
  by_cases c1 : 0 ≤ x1 ∧ x1 ≤ 9
  · obtain ⟨h, hh, rfl⟩ := in_nI (n := 9) (by omega) c1
    have hh : h < 10 := by omega
    have h11 := ct_le hV
    obtain ⟨D, D', L, c, e1, e2, e3, e4, e5, e6, e7, e8, e9⟩ := same_crew (b := b) hJ
    have hRD := hR.cs hV isS_1 e3
    have hc : ∀ i, i < ct s (s 211) → c i < 10 := fun i hi => by have := e7.1 i hi; omega
    rcases X1_turn_s (b := b) (x := x2) hRD hV e5 hc hh with ⟨j, j1, j2⟩ | ⟨j1, j2⟩
    · refine ⟨nI (ab s j), D, D', ?_, ?_, e4⟩
      · rw [ifb_t c1]
        simp only [t_crw, t_stg, t_flt, Option.bind_some, e1, j2]
      · rcases X8_crew_s (b := b) (x := x2) e4.2.2.1 hV e6 e7 e8 e9 hh with ⟨k, k1, k2⟩ | ⟨k1, k2⟩
        · rw [ifb_t c1, e2, Option.bind_some, k2, Option.bind_some]
          show ((gR (wld b D') (b + 243) 8 7).bind fun w23 => (lA (wld b D') 0 w23 (nI k)).bind fun v25 => some (v25, wld b D')) = _
          have ek : k = j := hit_uq hV e7 k1 j1
          subst ek
          have hk := k1.1
          rw [m_ab, Option.bind_some, lA_f isA_m.2.2.2.2.2.2.1 (by omega), (e6.2 k hk).1, Option.bind_some]
        · exact absurd j1 (k1 j)
    · refine ⟨-6, D, D', ?_, ?_, e4⟩
      · rw [ifb_t c1]
        simp only [t_crw, t_stg, t_flt, Option.bind_some, e1, j2]
      · rcases X8_crew_s (b := b) (x := x2) e4.2.2.1 hV e6 e7 e8 e9 hh with ⟨k, k1, k2⟩ | ⟨k1, k2⟩
        · exact absurd k1 (j1 k)
        · rw [ifb_t c1, e2, Option.bind_some, k2, Option.bind_some]
          rfl
  · exact ⟨-2, d, d, by rw [ifb_f c1], by rw [ifb_f c1], hJ⟩
end CREWQ
