theorem Cp.cg {s : Sg} {f : Nat} {P Q : Nat → Nat → Prop} {a : Option (Nat × Nat × Nat)} (h : Cp s f P a) (e : ∀ q r, P q r ↔ Q q r) : Cp s f Q a := by
  have : P = Q := by funext q r; exact propext (e q r)
  rw [← this]
  exact h
theorem c2_Cp {s : Sg} {f q : Nat} {a : Option (Nat × Nat × Nat)} (h : Cp s f (fun q' r' => q' < r' ∧ r' < 10 ∧ q' < q) a) (hf : f ≤ 300) : ∀ j, j ≤ 9 - q → Cp s f (fun q' r' => q' < r' ∧ r' < 10 ∧ (q' < q ∨ q' = q ∧ r' < q + 1 + j)) (c2 s f q a j)
  | 0, _ => h.cg (fun q' r' => by omega)
  | j + 1, hj => by
    have ih := c2_Cp h hf j (by omega)
    simp only [c2]
    exact (ih.one hf (q := q) (r := q + 1 + j) (fun q' r' g => by omega)).cg (fun q' r' => by omega)
theorem c3_Cp {s : Sg} {f : Nat} (hf : f ≤ 300) : ∀ q, q ≤ 10 → Cp s f (fun q' r' => q' < r' ∧ r' < 10 ∧ q' < q) (c3 s f q)
  | 0, _ => fun t q r _ _ g => by omega
  | q + 1, hq => by
    simp only [c3]
    exact (c2_Cp (c3_Cp hf q (by omega)) hf (9 - q) (by omega)).cg (fun q' r' => by omega)
theorem c3_Cl {s : Sg} {f n : Nat} (hf : f ≤ 300) (hn : n = 10) : Cl s f (c3 s f n) := by
  have h := c3_Cp (s := s) hf n (by omega)
  generalize c3 s f n = a at h ⊢
  match a, h with
  | none, h => exact fun t q r g1 g2 g3 g4 => h t q r g1 g2 ⟨g3, g4, by omega⟩
  | some (T, q0, r0), h =>
    obtain ⟨k1, k2, ⟨k3, k4, -⟩, k5, k6, k7⟩ := h
    exact ⟨k1, k2, k3, k4, k5, fun t q r g1 g2 g3 g4 => k6 t q r g1 g2 ⟨g3, g4, by omega⟩, fun q r g1 g2 g3 => k7 q r ⟨g1, g2, by omega⟩ g3⟩
/-! the reference's loops -/
def rr (s : Sg) (t q : Nat) : Nat := fnd (fun r => hit s q r t) (9 - q) (q + 1)
def qq (s : Sg) (t : Nat) : Nat := fnd (fun q => decide (rr s t q < 10)) 10 0
def tt (s : Sg) (f : Nat) : Nat := fnd (fun t => decide (qq s t < 10)) (301 - f) f
def cA (s : Sg) (f : Nat) : Option (Nat × Nat × Nat) := if tt s f < 301 then some (tt s f, qq s (tt s f), rr s (tt s f) (qq s (tt s f))) else none
theorem rr_le {s : Sg} {t q : Nat} (hq : q < 10) : q < rr s t q ∧ rr s t q ≤ 10 := by
  have := fnd_le (p := fun r => hit s q r t) (9 - q) (q + 1)
  unfold rr
  omega
theorem qq_le {s : Sg} {t : Nat} : qq s t ≤ 10 := by
  have := fnd_le (p := fun q => decide (rr s t q < 10)) 10 0
  unfold qq
  omega
theorem qq_no {s : Sg} {t : Nat} (h : ¬ qq s t < 10) : ∀ q r, q < r → r < 10 → hit s q r t = false := by
  intro q r g1 g2
  have h1 := fnd_no (p := fun q => decide (rr s t q < 10)) 10 0 q (by omega) (show q < qq s t by omega)
  simp at h1
  exact fnd_no (p := fun r => hit s q r t) (9 - q) (q + 1) r (by omega) (show r < rr s t q by omega)
theorem cA_Cl {s : Sg} {f : Nat} (hf : f ≤ 300) : Cl s f (cA s f) := by
  have ht := fnd_le (p := fun t => decide (qq s t < 10)) (301 - f) f
  have hno : ∀ t q r, f ≤ t → t < tt s f → q < r → r < 10 → hit s q r t = false := fun t q r g1 g2 g3 g4 => by
    have := fnd_no (p := fun t => decide (qq s t < 10)) (301 - f) f t g1 g2
    simp at this
    exact qq_no (by omega) q r g3 g4
  unfold cA
  by_cases c : tt s f < 301
  · rw [if_pos c]
    have hy := fnd_yes (p := fun t => decide (qq s t < 10)) (301 - f) f (show tt s f < _ by omega)
    have hy : qq s (tt s f) < 10 := of_decide_eq_true hy
    have hz := fnd_yes (p := fun q => decide (rr s (tt s f) q < 10)) 10 0 (show qq s (tt s f) < _ by omega)
    have hz : rr s (tt s f) (qq s (tt s f)) < 10 := of_decide_eq_true hz
    have hr := rr_le (s := s) (t := tt s f) hy
    refine ⟨ht.1, by omega, hr.1, hz, fnd_yes (p := fun r => hit s (qq s (tt s f)) r (tt s f)) _ _ (show rr s (tt s f) (qq s (tt s f)) < _ by omega), hno, fun q r g1 g2 g3 => ?_⟩
    rcases g3 with g3 | ⟨rfl, g3⟩
    · have h1 := fnd_no (p := fun q => decide (rr s (tt s f) q < 10)) 10 0 q (by omega) (show q < qq s (tt s f) from g3)
      simp at h1
      exact fnd_no (p := fun r => hit s q r (tt s f)) (9 - q) (q + 1) r (by omega) (show r < rr s (tt s f) q by omega)
    · exact fnd_no (p := fun r => hit s (qq s (tt s f)) r (tt s f)) (9 - qq s (tt s f)) (qq s (tt s f) + 1) r (by omega) g3
  · rw [if_neg c]
    have e : tt s f ≤ f + (301 - f) := ht.2
    exact fun t q r g1 g2 g3 g4 => hno t q r g1 (by omega) g3 g4
theorem c3_cA {s : Sg} {f n : Nat} (hf : f ≤ 300) (hn : n = 10) : c3 s f n = cA s f := (c3_Cl hf hn).un (cA_Cl hf)
section CLASH
variable {b : Nat} {d : Da} {q r i m : Nat} {s : Sg}
theorem cT_fs {f q r : Nat} {a : Option (Nat × Nat × Nat)} : cT (c1 s f q r a) = (if cT a ≤ fs s q r f (cT a) then cT a else fs s q r f (cT a)) := by
  unfold c1
  split <;> rfl
theorem X7_clash_o {f : Nat} {x2 : Int32} (hR : StR d 1 s) (hV : Vd s) (hf : f ≤ 300) (hT : ∀ q, q < 10 → Tr d s q) :
    wloop (un4 (X7_clash_b45 (wld b d) b (nI f) x2)) FU ((301 : Int32), (-6 : Int32), (-6 : Int32), (0 : Int32)) = some (nI (cT (c3 s f 10)), cQ (c3 s f 10), cR (c3 s f 10)) := by
  rw [wl_count (fun k => (nI (cT (c3 s f k)), cQ (c3 s f k), cR (c3 s f k), nI k)) 10 (nI (cT (c3 s f 10)), cQ (c3 s f 10), cR (c3 s f 10)) ?_ ?_ (by omega) ?_]
  · intro k hk
    have n1 : ¬ 10 ≤ k := by omega
    simp (disch := omega) only [un4, X7_clash_b45, c_10, nI_leI, n1, if_false]
    rw [wl_count (fun j => (nI (cT (c2 s f k (c3 s f k) j)), cQ (c2 s f k (c3 s f k) j), cR (c2 s f k (c3 s f k) j), nI (k + 1 + j))) (9 - k) (nI (cT (c3 s f (k + 1))), cQ (c3 s f (k + 1)), cR (c3 s f (k + 1))) ?_ ?_ (by omega) ?_]
    · simp only [Option.bind_some, un3, nI_1]
    · intro j hj
      have n2 : ¬ 10 ≤ k + 1 + j := by omega
      have hcp := c2_Cp (c3_Cp (s := s) hf k (by omega)) hf j (by omega)
      obtain ⟨t1, t2⟩ := hcp.T hf
      simp (disch := omega) only [un4, X7_clash_b58, c_10, nI_leI, n2, if_false, t_flt, t_stg, Option.bind_some, X2_firstStrike_s isS_1 hR hV (q := k) (r := k + 1 + j) hk (by omega) t1 t2 (hT k hk) (hT (k + 1 + j) (by omega)), nI_1]
      have hfs : fs s k (k + 1 + j) f (cT (c2 s f k (c3 s f k) j)) ≤ 301 := by
        unfold fs
        split
        · have := fnd_le (p := ovl s k (k + 1 + j)) (cT (c2 s f k (c3 s f k) j) - f) f; omega
        · omega
      simp (disch := omega) only [nI_leI]
      simp only [c2, c1]
      split <;> rfl
    · have n2 : 10 ≤ k + 1 + (9 - k) := by omega
      simp (disch := omega) only [un4, X7_clash_b58, c_10, nI_leI, n2, if_true]
      rfl
    · rw [c_1, nI_add]
      rfl
  · simp (disch := omega) only [un4, X7_clash_b45, c_10, nI_leI, Nat.le_refl, if_true]
  · rfl
theorem X8_clash_o {f : Nat} {x2 : Int32} (hM : M8 d s) (hV : Vd s) (hf : f ≤ 300) (hT : ∀ q t, q < 10 → t ≤ 300 → d 249 (301 * q + t) = nI (hgt s q t)) :
    wloop (un1 (X8_clash_b29 (wld b d) (b + 243) x2)) FU (nI f) = some (match cA s f with | some (T, q, r) => .inl (nI T, nI q, nI r) | none => .inr ()) := by
  have l52 : ∀ t q, t ≤ 300 → q < 10 → wloop (un1 (X8_clash_b52 (wld b d) (b + 243) x2 (nI t) (nI q))) FU (nI q + 1) = some (if rr s t q < 10 then .inl (nI (rr s t q)) else .inr ()) := by
    intro t q ht hq
    have hr := rr_le (s := s) (t := t) hq
    rw [wl_count (fun j => nI (q + 1 + j)) (rr s t q - (q + 1)) (if rr s t q < 10 then .inl (nI (rr s t q)) else .inr ()) ?_ ?_ (by omega) ?_]
    · intro j hj
      have n2 : ¬ 10 ≤ q + 1 + j := by omega
      have hno := fnd_no (p := fun r => hit s q r t) (9 - q) (q + 1) (q + 1 + j) (by omega) (show _ < rr s t q by omega)
      simp (disch := omega) only [un1, X8_clash_b52, c_10, nI_leI, n2, if_false, X8_doStrike_s hM hV hq (r := q + 1 + j) (by omega) ht hT, hno, Option.bind_some, nI_1]
      rfl
    · rw [show q + 1 + (rr s t q - (q + 1)) = rr s t q by omega]
      by_cases c : rr s t q < 10
      · have n2 : ¬ 10 ≤ rr s t q := by omega
        have hy := fnd_yes (p := fun r => hit s q r t) (9 - q) (q + 1) (show rr s t q < _ by omega)
        have hy : hit s q (rr s t q) t = true := hy
        simp (disch := omega) only [un1, X8_clash_b52, c_10, nI_leI, n2, if_false, X8_doStrike_s hM hV hq (r := rr s t q) c ht hT, hy, Option.bind_some, c, if_true]
        rfl
      · have n2 : 10 ≤ rr s t q := by omega
        simp (disch := omega) only [un1, X8_clash_b52, c_10, nI_leI, n2, if_true, c, if_false]
    · rw [c_1, nI_add]
  have l39 : ∀ t, t ≤ 300 → wloop (un1 (X8_clash_b39 (wld b d) (b + 243) x2 (nI t))) FU (0 : Int32) = some (if qq s t < 10 then .inl (nI (qq s t), nI (rr s t (qq s t))) else .inr ()) := by
    intro t ht
    have hq := qq_le (s := s) (t := t)
    rw [wl_count (fun j => nI j) (qq s t) (if qq s t < 10 then .inl (nI (qq s t), nI (rr s t (qq s t))) else .inr ()) ?_ ?_ (by omega) ?_]
    · intro j hj
      have n2 : ¬ 10 ≤ j := by omega
      have hno := fnd_no (p := fun q => decide (rr s t q < 10)) 10 0 j (by omega) hj
      have hno : ¬ rr s t j < 10 := by simpa using hno
      show X8_clash_b39 (wld b d) (b + 243) x2 (nI t) (nI j) = _
      unfold X8_clash_b39
      rw [c_10, if_neg (nI_ge (by omega) (by omega)), l52 t j ht (by omega), if_neg hno, Option.bind_some]
      simp only [sOf, nI_1]
    · by_cases c : qq s t < 10
      · have n2 : ¬ 10 ≤ qq s t := by omega
        have hz := fnd_yes (p := fun q => decide (rr s t q < 10)) 10 0 (show qq s t < _ by omega)
        have hz : rr s t (qq s t) < 10 := of_decide_eq_true hz
        show X8_clash_b39 (wld b d) (b + 243) x2 (nI t) (nI (qq s t)) = _
        unfold X8_clash_b39
        rw [c_10, if_neg (nI_ge (by omega) (by omega)), l52 t (qq s t) ht c, if_pos hz, if_pos c, Option.bind_some]
        rfl
      · have n2 : 10 ≤ qq s t := by omega
        simp (disch := omega) only [un1, X8_clash_b39, c_10, nI_leI, n2, if_true, if_neg c]
    · rfl
  have ht := fnd_le (p := fun t => decide (qq s t < 10)) (301 - f) f
  have e : tt s f = fnd (fun t => decide (qq s t < 10)) (301 - f) f := rfl
  rw [← e] at ht
  rw [wl_count (fun j => nI (f + j)) (tt s f - f) (match cA s f with | some (T, q, r) => .inl (nI T, nI q, nI r) | none => .inr ()) ?_ ?_ (by omega) ?_]
  · intro j hj
    have n2 : ¬ 300 < f + j := by omega
    have hno := fnd_no (p := fun t => decide (qq s t < 10)) (301 - f) f (f + j) (by omega) (show _ < tt s f by omega)
    have hno : ¬ qq s (f + j) < 10 := by simpa using hno
    show X8_clash_b29 (wld b d) (b + 243) x2 (nI (f + j)) = _
    unfold X8_clash_b29
    rw [c_300, if_neg (nI_nlt (by omega) (by omega)), l39 (f + j) (by omega), if_neg hno, Option.bind_some]
    simp only [sOf, nI_1]
    rfl
  · rw [show f + (tt s f - f) = tt s f by omega]
    unfold cA
    by_cases c : tt s f < 301
    · have n2 : ¬ 300 < tt s f := by omega
      have hy := fnd_yes (p := fun t => decide (qq s t < 10)) (301 - f) f (show tt s f < _ by omega)
      have hy : qq s (tt s f) < 10 := of_decide_eq_true hy
      show X8_clash_b29 (wld b d) (b + 243) x2 (nI (tt s f)) = _
      unfold X8_clash_b29
      rw [c_300, if_neg (nI_nlt (by omega) (by omega)), l39 (tt s f) (by omega), if_pos hy, if_pos c, Option.bind_some]
      rfl
    · have n2 : 300 < tt s f := by omega
      simp (disch := omega) only [un1, X8_clash_b29, c_300, nI_ltI, n2, if_true, if_neg c]
  · rfl
theorem q_clash (hJ : Iv d s) (x1 x2 : Int32) : ∃ r d1 d2, X7_clash (wld b d) b x1 x2 = some (r, wld b d1) ∧ X8_clash (wld b d1) (b + 243) x1 x2 = some (r, wld b d2) ∧ Iv d2 s := by
  obtain ⟨hV, hR, hM, -⟩ := id hJ
  unfold X7_clash X8_clash
  simp only [k_top, k_mod, Option.bind_some, X7_isTime_s, X7_within_s, X8_in_s]
  by_cases c1 : 0 ≤ x1 ∧ x1 ≤ 300
  · by_cases c2 : 0 ≤ x2 ∧ x2 ≤ 2
    · obtain ⟨f, hf, rfl⟩ := in_nI (n := 300) (by omega) c1
      have hR2 := hR.cs hV isS_1 (ra_cS d s 10 (by omega))
      have hM2 := hM.cs (ra_cS d s 10 (by omega))
      have hM3 := hM2.ms (lr_mS _ s 10)
      have eq : c3 s f 10 = cA s f := c3_cA hf rfl
      refine ⟨match cA s f with | none => -6 | some (T, q, r) => if x2 = 0 then nI T else if x2 = 1 then nI q else nI r, ra d s 10, lr (ra d s 10) s 10, ?_, ?_, hJ.q (ra_cS d s 10 (by omega)) (lr_mS _ s 10)⟩
      · rw [ifb_t c1, ifb_t c2]
        simp only [t_flt, t_stg, Option.bind_some, X2_traceAll_s isS_1 hR hV, X7_clash_o hR2 hV hf (fun q hq => ra_Tr d s 10 q hq), eq, un3]
        have hcl := cA_Cl (s := s) hf
        match cA s f, hcl with
        | none, _ => rfl
        | some (T, q, r), hcl =>
          have : T ≤ 300 := hcl.2.1
          rw [if_pos (show nI (cT (some (T, q, r))) ≤ 300 from by rw [c_300]; exact nI_le this (by omega))]
          show (if x2 = 0 then some (nI T, wld b (ra d s 10)) else if x2 = 1 then some (nI q, wld b (ra d s 10)) else some (nI r, wld b (ra d s 10))) = some (if x2 = 0 then nI T else if x2 = 1 then nI q else nI r, wld b (ra d s 10))
          split
          · rfl
          · split <;> rfl
      · rw [ifb_t c1, ifb_t c2]
        simp only [X8_layRows_s hM2 hV, Option.bind_some, X8_clash_o hM3 hV hf (fun q t a1 a2 => lr_in _ s 10 q t a1 a2)]
        match cA s f with
        | none => rfl
        | some (T, q, r) =>
          simp only [sOf, un3]
          split
          · rfl
          · split <;> rfl
    · exact ⟨-2, d, d, by rw [ifb_t c1, ifb_f c2], by rw [ifb_t c1, ifb_f c2], hJ⟩
  · exact ⟨-2, d, d, by rw [ifb_f c1], by rw [ifb_f c1], hJ⟩
end CLASH
