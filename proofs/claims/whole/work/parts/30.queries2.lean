/-! the last end -/
def le_ (s : Sg) : Nat → Option Nat
  | 0 => none
  | n + 1 => match le_ s n with
    | none => some (eT s n)
    | some v => some (if v < eT s n then eT s n else v)
def me (d : Da) (s : Sg) : Nat → Da
  | 0 => d
  | n + 1 => ru (me d s n) 248 301 (hI s (s (171 + n)))
theorem me_mS (d : Da) (s : Sg) : ∀ n, mS d (me d s n)
  | 0 => mS.rf d
  | n + 1 => (me_mS d s n).tr (mS.ru (by omega))
theorem le_le {s : Sg} (hV : Vd s) : ∀ n v, n ≤ s 211 → le_ s n = some v → v ≤ 300
  | 0, v, _, h => by cases h
  | n + 1, v, hn, h => by
    have h1 := eT_ok hV (m := n) (by omega)
    have h2 := lim_ok hV (m := n) (by omega)
    simp only [le_] at h
    cases hf : le_ s n with
    | none => rw [hf] at h; cases h; omega
    | some w =>
      have := le_le hV n w (by omega) hf
      rw [hf] at h
      cases h
      split <;> omega
section QUE2
variable {b : Nat} {d : Da} {q r i m : Nat} {s : Sg}
theorem X7_lastEnd_s (hR : StR d 1 s) (hV : Vd s) : X7_lastEnd (wld b d) b = some (oJ (le_ s (s 211)), wld b (ra d s 10)) := by
  have h10 := hV.ln
  have hR2 := hR.cs hV isS_1 (ra_cS d s 10 (by omega))
  unfold X7_lastEnd
  rw [k_top, Option.bind_some, t_flt, Option.bind_some, t_stg, Option.bind_some, X2_traceAll_s isS_1 hR hV, Option.bind_some, wl_count (fun k => (oJ (le_ s k), nI k)) (s 211) (oJ (le_ s (s 211))) ?_ ?_ (by omega) ?_]
  · rfl
  · intro k hk
    have c1 : ¬ s 211 ≤ k := by omega
    have hq := hV.of (m := k) (by omega)
    have h1 := eT_ok hV hk
    have h2 := lim_ok hV hk
    simp (disch := omega) only [un2, X7_lastEnd_b16, t_stg, t_flt, f_cnt isS_1, hR2.cn, Option.bind_some, nI_leI, c1, if_false, nI_1]
    rw [X2_endOf_s isS_1 hR2 hV hk (ra_Tr d s 10 _ hq), Option.bind_some]
    simp only [le_]
    cases hf : le_ s k with
    | none =>
      have e : iMax (oJ none) (nI (eT s k)) = nI (eT s k) := by
        unfold iMax
        rw [if_pos]
        exact Int32.lt_of_lt_of_le (show oJ none < 0 by decide) (nI_pos' (by omega))
      rw [e]
      rfl
    | some v =>
      have h3 := le_le hV k v (by omega) hf
      have e : iMax (oJ (some v)) (nI (eT s k)) = nI (if v < eT s k then eT s k else v) := by
        unfold iMax
        simp (disch := omega) only [oJ_some, nI_ltI]
        split <;> rfl
      rw [e]
      rfl
  · simp (disch := omega) only [un2, X7_lastEnd_b16, t_stg, f_cnt isS_1, hR2.cn, Option.bind_some, nI_leI, Nat.le_refl, if_true]
  · rfl
theorem X8_lastEnd_s (hM : M8 d s) (hV : Vd s) : X8_lastEnd (wld b d) (b + 243) = some (oJ (le_ s (s 211)), wld b (me d s (s 211))) := by
  have h10 := hV.ln
  unfold X8_lastEnd
  rw [k_mod, Option.bind_some, wl_count (fun k => (wld b (me d s k), oJ (le_ s k), nI k)) (s 211) (wld b (me d s (s 211)), oJ (le_ s (s 211))) ?_ ?_ (by omega) ?_]
  · rfl
  · intro k hk
    have c1 : ¬ s 211 ≤ k := by omega
    have hMk := hM.ms (me_mS d s k)
    have h1 := eT_ok hV hk
    have h2 := lim_ok hV hk
    simp (disch := omega) only [un3, X8_lastEnd_b5, m_st, c_211, m_s hMk, Option.bind_some, nI_leI, c1, if_false, X8_endOf_s hMk hV hk, un2, nI_1]
    simp only [le_]
    cases hf : le_ s k with
    | none =>
      rw [if_neg]
      · rfl
      · exact Int32.not_le.mpr (Int32.lt_of_lt_of_le (show oJ none < 0 by decide) (nI_pos' (by omega)))
    | some v =>
      have h3 := le_le hV k v (by omega) hf
      simp (disch := omega) only [oJ_some, nI_leI]
      by_cases c : eT s k ≤ v
      · rw [if_pos c, if_neg (by omega)]
        rfl
      · rw [if_neg c, if_pos (by omega)]
        rfl
  · have hMk := hM.ms (me_mS d s (s 211))
    simp (disch := omega) only [un3, X8_lastEnd_b5, m_st, c_211, m_s hMk, Option.bind_some, nI_leI, Nat.le_refl, if_true]
  · rfl
theorem q_count (hJ : Iv d s) (x1 : Int32) : ∃ r d1 d2, X7_count (wld b d) b x1 = some (r, wld b d1) ∧ X8_count (wld b d1) (b + 243) x1 = some (r, wld b d2) ∧ Iv d2 s := by
  obtain ⟨hV, hR, hM, kb, k1, k2, k3⟩ := id hJ
  have h10 := hV.ln
  unfold X7_count X8_count
  simp only [k_top, k_mod, Option.bind_some]
  by_cases e0 : x1 = 0
  · subst e0
    refine ⟨nI (s 211), d, d, ?_, ?_, hJ⟩
    · rw [if_pos rfl, t_stg, Option.bind_some, f_cnt isS_1, Option.bind_some, hR.cn]
    · rw [if_pos rfl, m_st, Option.bind_some, c_211, m_s hM (by omega), Option.bind_some]
  · by_cases e1 : x1 = 1
    · subst e1
      refine ⟨nI (s 170), d, d, ?_, ?_, hJ⟩
      · rw [if_neg e0, if_pos rfl, t_stg, Option.bind_some, f_sway isS_1, Option.bind_some, hR.sw]
      · rw [if_neg e0, if_pos rfl, m_st, Option.bind_some, c_170, m_s hM (by omega), Option.bind_some]
    · by_cases e2 : x1 = 2
      · subst e2
        refine ⟨nI (cN (evn s) 10), d, d, ?_, ?_, hJ⟩
        · rw [if_neg e0, if_neg e1, if_pos rfl, t_stg, Option.bind_some, X6_evenBars_s isS_1 hR hV, Option.bind_some]
        · rw [if_neg e0, if_neg e1, if_pos rfl, X8_evenBars_s hM hV, Option.bind_some]
      · by_cases e3 : x1 = 3
        · subst e3
          refine ⟨nI (nps s), d, d, ?_, ?_, hJ⟩
          · rw [if_neg e0, if_neg e1, if_neg e2, if_pos rfl, t_stg, Option.bind_some, X6_nearPairs_s isS_1 hR hV, Option.bind_some]
          · rw [if_neg e0, if_neg e1, if_neg e2, if_pos rfl, X8_nearPairs_s hM hV, Option.bind_some]
        · by_cases e4 : x1 = 4
          · subst e4
            refine ⟨oJ (le_ s (s 211)), ra d s 10, me (ra d s 10) s (s 211), ?_, ?_, hJ.q (ra_cS d s 10 (by omega)) (me_mS _ s _)⟩
            · rw [if_neg e0, if_neg e1, if_neg e2, if_neg e3, if_pos rfl, X7_lastEnd_s hR hV]
              rfl
            · rw [if_neg e0, if_neg e1, if_neg e2, if_neg e3, if_pos rfl, X8_lastEnd_s (hM.cs (ra_cS d s 10 (by omega))) hV]
              rfl
          · by_cases e5 : x1 = 5
            · subst e5
              refine ⟨nI kb, d, d, ?_, ?_, hJ⟩
              · rw [if_neg e0, if_neg e1, if_neg e2, if_neg e3, if_neg e4, if_pos rfl, f_kept, Option.bind_some, k2]
              · rw [if_neg e0, if_neg e1, if_neg e2, if_neg e3, if_neg e4, if_pos rfl]
                unfold X8_count_L87
                simp (disch := omega) only [m_kp, Option.bind_some, c_0, c_1, lZ_f isA_m.2.2.1, (k3 0 (by omega)).1, (k3 1 (by omega)).1]
                match kb, k1 with
                | 0, _ => rfl
                | 1, _ => rfl
                | 2, _ => rfl
                | 3, _ => rfl
            · exact ⟨-2, d, d, by rw [if_neg e0, if_neg e1, if_neg e2, if_neg e3, if_neg e4, if_neg e5], by rw [if_neg e0, if_neg e1, if_neg e2, if_neg e3, if_neg e4, if_neg e5], hJ⟩
end QUE2
/-! the first clash -/
/-- the answer: none, or the time and the pair -/
def Cl (s : Sg) (f : Nat) (a : Option (Nat × Nat × Nat)) : Prop := match a with
  | none => ∀ t q r, f ≤ t → t ≤ 300 → q < r → r < 10 → hit s q r t = false
  | some (T, q0, r0) => f ≤ T ∧ T ≤ 300 ∧ q0 < r0 ∧ r0 < 10 ∧ hit s q0 r0 T = true ∧ (∀ t q r, f ≤ t → t < T → q < r → r < 10 → hit s q r t = false) ∧ ∀ q r, q < r → r < 10 → (q < q0 ∨ q = q0 ∧ r < r0) → hit s q r T = false
theorem Cl.un {s : Sg} {f : Nat} {a a' : Option (Nat × Nat × Nat)} (h : Cl s f a) (h' : Cl s f a') : a = a' := by
  match a, a', h, h' with
  | none, none, _, _ => rfl
  | none, some (T, q0, r0), h, h' =>
    obtain ⟨g1, g2, g3, g4, g5, -⟩ := h'
    have := h T q0 r0 g1 g2 g3 g4
    rw [g5] at this
    cases this
  | some (T, q0, r0), none, h, h' =>
    obtain ⟨g1, g2, g3, g4, g5, -⟩ := h
    have := h' T q0 r0 g1 g2 g3 g4
    rw [g5] at this
    cases this
  | some (T, q0, r0), some (T', q1, r1), h, h' =>
    obtain ⟨g1, g2, g3, g4, g5, g6, g7⟩ := h
    obtain ⟨k1, k2, k3, k4, k5, k6, k7⟩ := h'
    have e : T = T' := by
      rcases Nat.lt_trichotomy T T' with c | c | c
      · have := k6 T q0 r0 g1 c g3 g4; rw [g5] at this; cases this
      · exact c
      · have := g6 T' q1 r1 k1 c k3 k4; rw [k5] at this; cases this
    subst e
    by_cases c : q0 < q1 ∨ q0 = q1 ∧ r0 < r1
    · have := k7 q0 r0 g3 g4 c; rw [g5] at this; cases this
    · by_cases c2 : q1 < q0 ∨ q1 = q0 ∧ r1 < r0
      · have := g7 q1 r1 k3 k4 c2; rw [k5] at this; cases this
      · rw [show q0 = q1 by omega, show r0 = r1 by omega]
def cT (a : Option (Nat × Nat × Nat)) : Nat := match a with
  | none => 301
  | some x => x.1
def cQ (a : Option (Nat × Nat × Nat)) : Int32 := match a with
  | none => -6
  | some x => nI x.2.1
def cR (a : Option (Nat × Nat × Nat)) : Int32 := match a with
  | none => -6
  | some x => nI x.2.2
/-- the program's loop: pair by pair -/
def c1 (s : Sg) (f q r : Nat) (a : Option (Nat × Nat × Nat)) : Option (Nat × Nat × Nat) := if cT a ≤ fs s q r f (cT a) then a else some (fs s q r f (cT a), q, r)
def c2 (s : Sg) (f q : Nat) (a : Option (Nat × Nat × Nat)) : Nat → Option (Nat × Nat × Nat)
  | 0 => a
  | j + 1 => c1 s f q (q + 1 + j) (c2 s f q a j)
def c3 (s : Sg) (f : Nat) : Nat → Option (Nat × Nat × Nat)
  | 0 => none
  | q + 1 => c2 s f q (c3 s f q) (9 - q)
/-- so far: the pairs of 'P' are through -/
def Cp (s : Sg) (f : Nat) (P : Nat → Nat → Prop) (a : Option (Nat × Nat × Nat)) : Prop := match a with
  | none => ∀ t q r, f ≤ t → t ≤ 300 → P q r → hit s q r t = false
  | some (T, q0, r0) => f ≤ T ∧ T ≤ 300 ∧ P q0 r0 ∧ hit s q0 r0 T = true ∧ (∀ t q r, f ≤ t → t < T → P q r → hit s q r t = false) ∧ ∀ q r, P q r → (q < q0 ∨ q = q0 ∧ r < r0) → hit s q r T = false
theorem Cp.T {s : Sg} {f : Nat} {P : Nat → Nat → Prop} {a : Option (Nat × Nat × Nat)} (h : Cp s f P a) (hf : f ≤ 300) : f ≤ cT a ∧ cT a ≤ 301 := by
  match a, h with
  | none, _ => exact ⟨by show f ≤ 301; omega, Nat.le_refl _⟩
  | some (T, q0, r0), h => exact ⟨h.1, by show T ≤ 301; have := h.2.1; omega⟩
theorem Cp.one {s : Sg} {f q r : Nat} {P : Nat → Nat → Prop} {a : Option (Nat × Nat × Nat)} (h : Cp s f P a) (hf : f ≤ 300) (hP : ∀ q' r', P q' r' → q' < q ∨ q' = q ∧ r' < r) : Cp s f (fun q' r' => P q' r' ∨ q' = q ∧ r' = r) (c1 s f q r a) := by
  obtain ⟨t1, t2⟩ := h.T hf
  have hno : ∀ t, f ≤ t → t < fs s q r f (cT a) → hit s q r t = false := by
    intro t g1 g2
    unfold fs at g2
    by_cases c : can s q r = true
    · rw [if_pos c] at g2
      rw [hit_bb c]
      exact fnd_no _ _ t g1 g2
    · simp [hit, c]
  unfold c1
  by_cases c : cT a ≤ fs s q r f (cT a)
  · rw [if_pos c]
    match a, h with
    | none, h =>
      intro t q' r' g1 g2 g3
      rcases g3 with g3 | ⟨rfl, rfl⟩
      · exact h t q' r' g1 g2 g3
      · exact hno t g1 (by have : (301 : Nat) ≤ fs s q' r' f 301 := c; show t < fs s q' r' f 301; omega)
    | some (T, q0, r0), h =>
      obtain ⟨k1, k2, k3, k4, k5, k6⟩ := h
      have c : T ≤ fs s q r f T := c
      refine ⟨k1, k2, Or.inl k3, k4, fun t q' r' g1 g2 g3 => ?_, fun q' r' g1 g2 => ?_⟩
      · rcases g3 with g3 | ⟨rfl, rfl⟩
        · exact k5 t q' r' g1 g2 g3
        · exact hno t g1 (by show t < fs s q' r' f T; omega)
      · rcases g1 with g1 | ⟨rfl, rfl⟩
        · exact k6 q' r' g1 g2
        · have := hP q0 r0 k3; omega
  · rw [if_neg c]
    have hcan : can s q r = true := by
      by_cases g : can s q r = true
      · exact g
      · unfold fs at c; rw [if_neg g] at c; omega
    have e : fs s q r f (cT a) = fnd (ovl s q r) (cT a - f) f := by unfold fs; rw [if_pos hcan]
    have e1 := fnd_le (p := ovl s q r) (cT a - f) f
    have e2 := fnd_yes (p := ovl s q r) (cT a - f) f (by rw [← e]; omega)
    have hold : ∀ t q' r', f ≤ t → t < cT a → P q' r' → hit s q' r' t = false := by
      match a, h with
      | none, h => exact fun t q' r' g1 g2 g3 => h t q' r' g1 (by have : t < 301 := g2; omega) g3
      | some (T, q0, r0), h => exact h.2.2.2.2.1
    refine ⟨by rw [e]; exact e1.1, by omega, Or.inr ⟨rfl, rfl⟩, by rw [hit_bb hcan, e]; exact e2, fun t q' r' g1 g2 g3 => ?_, fun q' r' g1 g2 => ?_⟩
    · rcases g3 with g3 | ⟨rfl, rfl⟩
      · exact hold t q' r' g1 (by omega) g3
      · exact hno t g1 g2
    · rcases g1 with g1 | ⟨rfl, rfl⟩
      · exact hold _ q' r' (by rw [e]; exact e1.1) (by omega) g1
      · omega
