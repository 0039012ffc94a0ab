/-! a row that is filled from its start -/
def ru (d : Da) (K n : Nat) (f : Nat → Int32) : Da := va_up d K (fun j => if j < n then f j else d K j)
theorem ru_0 (d : Da) (K : Nat) (f : Nat → Int32) : ru d K 0 f = d := by
  funext k j
  unfold ru va_up
  by_cases e : k = K
  · subst e; simp
  · simp [e]
theorem ru_st (d : Da) (K n : Nat) (f : Nat → Int32) {v : Int32} (hv : v = f n) : du (ru d K n f) K n v = ru d K (n + 1) f := by
  subst hv
  funext k j
  unfold du ru va_up
  by_cases e : k = K
  · subst e
    simp only [if_true]
    by_cases e2 : j = n
    · subst e2; simp
    · simp only [if_neg e2]
      by_cases e3 : j < n
      · rw [if_pos e3, if_pos (by omega)]
      · rw [if_neg e3, if_neg (by omega)]
  · simp [e]
theorem ru_in (d : Da) (K n : Nat) (f : Nat → Int32) {j : Nat} (h : j < n) : ru d K n f K j = f j := by simp [ru, va_up, h]
theorem ru_ne (d : Da) {K k : Nat} (n : Nat) (f : Nat → Int32) (h : k ≠ K) : ru d K n f k = d k := by simp [ru, va_up, h]
theorem StR.cg {d d' : Da} {p : Nat} {s : Sg} (h : StR d p s) (hln : s 211 ≤ 10) (hd : ∀ k, p ≤ k → k < p + 73 → d' k = d k) : StR d' p s := by
  obtain ⟨h1, h2, h3, h4, h5, h6⟩ := h
  refine ⟨fun q w hq hw => ?_, fun q i hq hi => ?_, fun q i k hq hi hk => ?_, ?_, ?_, fun m f hm hf => ?_⟩
  · rw [hd _ (by unfold lSet; omega) (by unfold lSet; omega)]; exact h1 q w hq hw
  · rw [hd _ (by unfold lPil; omega) (by unfold lPil; omega)]; exact h2 q i hq hi
  · rw [hd _ (by unfold lWei; omega) (by unfold lWei; omega)]; exact h3 q i k hq hi hk
  · rw [hd _ (by omega) (by omega)]; exact h4
  · rw [hd _ (by omega) (by omega)]; exact h5
  · rw [hd _ (by unfold lMov; omega) (by unfold lMov; have := hln; omega)]; exact h6 m f hm hf
theorem M8.cg {d d' : Da} {s : Sg} (h : M8 d s) (hd : d' 244 = d 244) : M8 d' s := fun i hi => by rw [hd]; exact h i hi
section TRACE
variable {b : Nat} {d : Da} {p q i m : Nat} {s : Sg}
theorem X4_stepFrom_s {h : Nat} (hp : isS p) (hR : StR d p s) (hV : Vd s) (hm : m < s 211) (hh : h ≤ 60) : X4_stepFrom (wld b d) (b + lMov p m) (nI h) = some (nI (stp (s (191 + m)) (s (201 + m)) h)) := by
  have h10 := hV.ln
  have c1 := hV.to (m := m) (by omega)
  have c2 := hV.pc (m := m) (by omega)
  unfold X4_stepFrom
  simp (disch := omega) only [k_mov hp, Option.bind_some, f_mv hp, hR.m2, hR.m3, iAbs_lt, nI_leI, nI_add]
  unfold stp
  by_cases c : s (191 + m) ≤ h + s (201 + m) ∧ h ≤ s (191 + m) + s (201 + m)
  · rw [if_neg (fun g => g c), if_pos c]
  · rw [if_pos c, if_neg c]
    by_cases c3 : s (191 + m) ≤ h
    · rw [if_pos c3, if_neg (by omega), pk_sub (by omega)]
    · rw [if_neg c3, if_pos (by omega)]
theorem oI_nn {r : Option Nat} (h : ∀ m, r = some m → m < 100) : 0 ≤ oI r ↔ r ≠ none := by
  rw [← Int32.not_lt, oI_neg r h]
theorem X2_L78_s {k : Nat} {x5 : Int32} (hp : isS p) (hR : StR d p s) (hV : Vd s) (hq : q < 10) (hk : k < 300) :
    X2_trace_L78 (wld b (ru d (81 + q) (k + 1) (fun t => nI (hgt s q t)))) (b + p) (nI q) (b + (81 + q)) (oI (lb s q (k + 1) (s 211))) x5 (nI (k + 1)) = some (.inl (wld b (ru d (81 + q) (k + 1 + 1) (fun t => nI (hgt s q t))), oI (lb s q (k + 1) (s 211)), x5, nI (k + 1 + 1))) := by
  have h10 := hV.ln
  have hS := isS_lt hp
  have hR2 : StR (ru d (81 + q) (k + 1) (fun t => nI (hgt s q t))) p s := hR.cg h10 (fun j h1 h2 => ru_ne d _ _ (by rcases hp with rfl | rfl | rfl <;> omega))
  have hA := isA_row hq
  have hrow : lA (wld b (ru d (81 + q) (k + 1) (fun t => nI (hgt s q t)))) 0 (b + (81 + q)) (nI (k + 1) - 1) = some (nI (hgt s q k)) := by
    rw [c_1, pk_sub (by omega), show k + 1 - 1 = k by omega, lA_f hA (by omega), ru_in _ _ _ _ (by omega)]
  have hh := hgt_le hV hq k
  unfold X2_trace_L78
  cases hf : lb s q (k + 1) (s 211) with
  | none =>
    rw [if_neg (show ¬ (0 : Int32) ≤ oI none by decide), hrow, Option.bind_some, sA_f hA (by omega), Option.bind_some, ru_st d _ _ _ (by simp only [hgt, hf]), nI_1]
  | some m =>
    obtain ⟨m1, -⟩ := lb_some _ m hf
    rw [if_pos (show (0 : Int32) ≤ oI (some m) from nI_pos' (by omega))]
    simp (disch := omega) only [oI_some, f_movs hp, f_mov hp, Option.bind_some, hrow, X4_stepFrom_s hp hR2 hV, sA_f hA, nI_1]
    rw [ru_st d _ _ _ (by simp only [hgt, hf])]
theorem X2_trace_s (hp : isS p) (hR : StR d p s) (hV : Vd s) (hq : q < 10) : X2_trace (wld b d) (b + 79) (b + p) (nI q) = some (wld b (ru d (81 + q) 301 (fun t => nI (hgt s q t)))) := by
  have h10 := hV.ln
  have hA := isA_row hq
  have hh0 := hV.ho hq
  have hRk : ∀ k, StR (ru d (81 + q) k (fun t => nI (hgt s q t))) p s := fun k => hR.cg h10 (fun j h1 h2 => ru_ne d _ _ (by rcases hp with rfl | rfl | rfl <;> omega))
  unfold X2_trace
  have e0 : sA (wld b d) (b + (81 + q)) (nI 0) (nI (s q)) = some (wld b (ru d (81 + q) 1 (fun t => nI (hgt s q t)))) := by
    rw [sA_f hA (by omega)]
    have := ru_st d (81 + q) 0 (fun t => nI (hgt s q t)) (v := nI (s q)) rfl
    rw [ru_0] at this
    rw [this]
  simp (disch := omega) only [k_flt, Option.bind_some, f_flt, f_hts hq, f_bars hp, f_bar hp hq, f_set hp hq, c_0, lA_f (isA_set hp hq), hR.s0 hq, e0, X6_firstMoveFrom_s hp (hRk 1) hV hq]
  rw [wl_count (fun k => (wld b (ru d (81 + q) (k + 1) (fun t => nI (hgt s q t))), oI (lb s q k (s 211)), oI (fm s q k (s 211)), nI (k + 1))) 300 (wld b (ru d (81 + q) 301 (fun t => nI (hgt s q t)))) ?_ ?_ (by omega) ?_]
  · rfl
  · intro k hk
    have c1 : ¬ 300 < k + 1 := by omega
    simp (disch := omega) only [un4, X2_trace_b35, c_300, nI_ltI, c1, if_false]
    cases hf : fm s q k (s 211) with
    | none =>
      obtain ⟨g1, g2⟩ := lb_miss hV (q := q) (t := k) (fun m hm h1 h2 => fm_none _ hf m hm ⟨h1, by omega⟩)
      rw [if_pos (show oI none < 0 by decide), ← g1, X2_L78_s hp hR hV hq hk, g2, hf]
    | some m =>
      obtain ⟨m1, m2, m3, m4⟩ := fm_some _ m hf
      have c6 := hV.bg (m := m) (by omega)
      rw [if_neg (show ¬ oI (some m) < 0 from nI_pos (by omega))]
      simp (disch := omega) only [oI_some, f_movs hp, f_mov hp, f_mv hp, (hRk (k + 1)).m1, Option.bind_some, c_1, pk_sub, Nat.add_sub_cancel, nI_eq]
      by_cases c7 : s (181 + m) = k
      · rw [if_pos c7, X6_firstMoveFrom_s hp (hRk (k + 1)) hV hq (by omega), Option.bind_some]
        have g := lb_hit hV m1 m2 c7
        have := X2_L78_s (b := b) (x5 := oI (fm s q (k + 1) (s 211))) hp hR hV hq hk
        rw [g] at this
        rw [oI_some] at this
        rw [this, g]
        rfl
      · rw [if_neg c7]
        obtain ⟨g1, g2⟩ := lb_miss hV (q := q) (t := k) (fun n hn h1 h2 => by have := m4 n hn h1 (by omega); omega)
        rw [← g1, X2_L78_s hp hR hV hq hk, g2, hf]
        rfl
  · simp (disch := omega) only [un4, X2_trace_b35, c_300, nI_ltI]
    rfl
  · rw [lb_no (fun m _ _ h => by omega)]
    rfl
end TRACE
