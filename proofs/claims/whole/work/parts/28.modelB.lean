/-! a stretch of a row -/
def sg (d : Da) (K lo n : Nat) (f : Nat → Int32) : Da := va_up d K (fun j => if lo ≤ j ∧ j < lo + n then f (j - lo) else d K j)
theorem sg_0 (d : Da) (K lo : Nat) (f : Nat → Int32) : sg d K lo 0 f = d := by
  funext k j
  unfold sg va_up
  by_cases e : k = K
  · subst e
    simp only [if_true]
    rw [if_neg (by omega)]
  · simp [e]
theorem sg_st (d : Da) (K lo n : Nat) (f : Nat → Int32) {v : Int32} (hv : v = f n) : du (sg d K lo n f) K (lo + n) v = sg d K lo (n + 1) f := by
  subst hv
  funext k j
  unfold du sg va_up
  by_cases e : k = K
  · subst e
    simp only [if_true]
    by_cases e2 : j = lo + n
    · subst e2
      simp only [if_true]
      rw [if_pos (by omega), show lo + n - lo = n by omega]
    · simp only [if_neg e2]
      by_cases e3 : lo ≤ j ∧ j < lo + n
      · rw [if_pos e3, if_pos (by omega)]
      · rw [if_neg e3, if_neg (by omega)]
  · simp [e]
theorem sg_in (d : Da) (K lo n : Nat) (f : Nat → Int32) {j : Nat} (h : j < n) : sg d K lo n f K (lo + j) = f j := by
  simp only [sg, va_up, if_true]
  rw [if_pos (by omega), show lo + j - lo = j by omega]
theorem sg_out (d : Da) (K lo n : Nat) (f : Nat → Int32) {j : Nat} (h : j < lo ∨ lo + n ≤ j) : sg d K lo n f K j = d K j := by
  simp only [sg, va_up, if_true]
  rw [if_neg (by omega)]
theorem sg_ne (d : Da) {K k : Nat} (lo n : Nat) (f : Nat → Int32) (h : k ≠ K) : sg d K lo n f k = d k := by simp [sg, va_up, h]
def hI (s : Sg) (q : Nat) : Nat → Int32 := fun t => nI (hgt s q t)
section MODB
variable {b : Nat} {d : Da} {q r i m : Nat} {s : Sg}
theorem oJ_some (m : Nat) : oJ (some m) = nI m := rfl
theorem X8_latest_s {t : Nat} (h : M8 d s) (hV : Vd s) (hq : q < 10) (ht : t < 1000) : X8_latest (wld b d) (b + 243) (nI q) (nI t) = some (oJ (lb s q (t + 1) (s 211))) := by
  have h10 := hV.ln
  unfold X8_latest
  rw [k_mod, Option.bind_some, wl_count (fun k => (oJ (lb s q (t + 1) k), nI k)) (s 211) (oJ (lb s q (t + 1) (s 211))) ?_ ?_ (by omega) ?_]
  · rfl
  · intro k hk
    have c1 : ¬ s 211 ≤ k := by omega
    have c2 := hV.of (m := k) (by omega)
    have c3 := hV.bg (m := k) (by omega)
    simp (disch := omega) only [un2, X8_latest_b6, m_st, c_211, c_171, c_181, m_s h, Option.bind_some, nI_leI, nI_ltI, c1, if_false, nI_add, nI_eq, nI_1]
    by_cases c : s (171 + k) = q
    · by_cases c4 : t < s (181 + k)
      · rw [if_pos c, if_pos c4, show lb s q (t + 1) (k + 1) = lb s q (t + 1) k from if_neg (by omega)]
      · rw [if_pos c, if_neg c4, show lb s q (t + 1) (k + 1) = (match lb s q (t + 1) k with | none => some k | some m => if s (181 + m) < s (181 + k) then some k else some m) from if_pos (by omega)]
        cases hf : lb s q (t + 1) k with
        | none =>
          rw [if_pos (show oJ none < 0 by decide)]
          rfl
        | some r =>
          obtain ⟨r1, -⟩ := lb_some k r hf
          have c6 := hV.bg (m := r) (by omega)
          rw [if_neg (show ¬ oJ (some r) < 0 from nI_pos (by omega))]
          simp (disch := omega) only [oJ_some, nI_add, m_s h, Option.bind_some, nI_leI]
          by_cases c7 : s (181 + k) ≤ s (181 + r)
          · rw [if_pos c7, if_neg (by omega)]
            rfl
          · rw [if_neg c7, if_pos (by omega)]
            rfl
    · rw [if_neg c, show lb s q (t + 1) (k + 1) = lb s q (t + 1) k from if_neg (by omega)]
  · simp (disch := omega) only [un2, X8_latest_b6, m_st, c_211, m_s h, Option.bind_some, nI_leI, Nat.le_refl, if_true]
  · rfl
theorem X8_layHeights_s (h : M8 d s) (hV : Vd s) (hq : q < 10) : X8_layHeights (wld b d) (b + 243) (nI q) = some (wld b (ru d 248 301 (hI s q))) := by
  have h10 := hV.ln
  have hA := isA_m.2.2.2.2.1
  have hh0 := hV.ho hq
  have hMk : ∀ k, M8 (ru d 248 k (hI s q)) s := fun k => h.ms (mS.ru (by omega))
  unfold X8_layHeights
  have e0 : sA (wld b d) (b + 248) (nI 0) (nI (s q)) = some (wld b (ru d 248 1 (hI s q))) := by
    rw [sA_f hA (by omega)]
    have := ru_st d 248 0 (hI s q) (v := nI (s q)) rfl
    rw [ru_0] at this
    rw [this]
  simp (disch := omega) only [k_mod, Option.bind_some, m_ht, m_st, c_0, nI_add, Nat.zero_add, m_s h, e0]
  rw [wl_count (fun k => (wld b (ru d 248 (k + 1) (hI s q)), nI (k + 1))) 300 (wld b (ru d 248 301 (hI s q))) ?_ ?_ (by omega) ?_]
  · rfl
  · intro k hk
    have c1 : ¬ 300 < k + 1 := by omega
    have hh := hgt_le hV hq k
    have hL : ∀ v, v = hI s q (k + 1) → X8_layHeights_L112 (wld b (ru d 248 (k + 1) (hI s q))) (b + 243) (nI q) (nI (k + 1)) v = some (.inl (wld b (ru d 248 (k + 1 + 1) (hI s q)), nI (k + 1 + 1))) := fun v hv => by
      unfold X8_layHeights_L112
      rw [m_ht, Option.bind_some, sA_f hA (by omega), Option.bind_some, ru_st d 248 (k + 1) (hI s q) hv, nI_1]
    simp (disch := omega) only [un2, X8_layHeights_b16, c_300, nI_ltI, c1, if_false, m_ht, Option.bind_some, c_1, pk_sub, Nat.add_sub_cancel, lA_f hA, ru_in, X8_latest_s (hMk (k + 1)) hV hq]
    cases hf : lb s q (k + 1) (s 211) with
    | none =>
      rw [if_pos (show oJ none < 0 by decide), hL _ (by simp only [hI, hgt, hf])]
    | some m =>
      obtain ⟨m1, -⟩ := lb_some _ m hf
      have t1 := hV.to (m := m) (by omega)
      have t2 := hV.pc (m := m) (by omega)
      rw [if_neg (show ¬ oJ (some m) < 0 from nI_pos (by omega))]
      have e1 : hI s q (k + 1) = nI (stp (s (191 + m)) (s (201 + m)) (hgt s q k)) := by simp only [hI, hgt, hf]
      have e2 : hI s q k = nI (hgt s q k) := rfl
      simp (disch := omega) only [oJ_some, m_st, c_191, c_201, nI_add, m_s (hMk (k + 1)), Option.bind_some, e2, X8_size_s, iAbs_lt, nI_leI, X8_layHeights_L110]
      unfold stp at e1
      by_cases c : s (191 + m) ≤ hgt s q k + s (201 + m) ∧ hgt s q k ≤ s (191 + m) + s (201 + m)
      · rw [if_pos c] at e1
        rw [if_neg (fun g => g c), hL _ e1.symm]
      · rw [if_neg c] at e1
        rw [if_pos c]
        by_cases c3 : s (191 + m) ≤ hgt s q k
        · rw [if_neg (by omega)] at e1
          rw [if_pos c3, pk_sub (by omega), hL _ e1.symm]
        · rw [if_pos (by omega)] at e1
          rw [if_neg c3, hL _ e1.symm]
  · simp (disch := omega) only [un2, X8_layHeights_b16, c_300, nI_ltI]
    rfl
  · rfl
theorem X8_nextBegin_s (h : M8 d s) (hV : Vd s) (hm : m < s 211) : X8_nextBegin (wld b d) (b + 243) (nI m) = some (oJ ((fm s (s (171 + m)) (s (181 + m) + 1) (s 211)).map (fun j => s (181 + j)))) := by
  have h10 := hV.ln
  have c8 := hV.of (m := m) (by omega)
  have c9 := hV.bg (m := m) (by omega)
  unfold X8_nextBegin
  rw [k_mod, Option.bind_some, wl_count (fun k => (oJ ((fm s (s (171 + m)) (s (181 + m) + 1) k).map (fun j => s (181 + j))), nI k)) (s 211) (oJ ((fm s (s (171 + m)) (s (181 + m) + 1) (s 211)).map (fun j => s (181 + j)))) ?_ ?_ (by omega) ?_]
  · rfl
  · intro k hk
    have c1 : ¬ s 211 ≤ k := by omega
    have c2 := hV.of (m := k) (by omega)
    have c3 := hV.bg (m := k) (by omega)
    simp (disch := omega) only [un2, X8_nextBegin_b5, X8_nextBegin_L81, m_st, c_211, c_171, c_181, m_s h, Option.bind_some, nI_leI, c1, if_false, nI_add, nI_eq, nI_1]
    by_cases c : s (171 + k) = s (171 + m)
    · by_cases c4 : s (181 + k) ≤ s (181 + m)
      · rw [if_pos c, if_pos c4, show fm s (s (171 + m)) (s (181 + m) + 1) (k + 1) = fm s (s (171 + m)) (s (181 + m) + 1) k from if_neg (by omega)]
      · rw [if_pos c, if_neg c4, show fm s (s (171 + m)) (s (181 + m) + 1) (k + 1) = (match fm s (s (171 + m)) (s (181 + m) + 1) k with | none => some k | some m => if s (181 + k) < s (181 + m) then some k else some m) from if_pos (by omega)]
        cases hf : fm s (s (171 + m)) (s (181 + m) + 1) k with
        | none =>
          rw [if_pos (show oJ (Option.map (fun j => s (181 + j)) none) < 0 from show (-6 : Int32) < 0 by decide)]
          rfl
        | some r =>
          obtain ⟨r1, -⟩ := fm_some k r hf
          have c6 := hV.bg (m := r) (by omega)
          rw [if_neg (show ¬ oJ (Option.map (fun j => s (181 + j)) (some r)) < 0 from nI_pos (n := s (181 + r)) (by omega))]
          simp (disch := omega) only [Option.map_some, oJ_some, nI_leI]
          by_cases c7 : s (181 + r) ≤ s (181 + k)
          · rw [if_pos c7, if_neg (by omega)]
            rfl
          · rw [if_neg c7, if_pos (by omega)]
            rfl
    · rw [if_neg c, show fm s (s (171 + m)) (s (181 + m) + 1) (k + 1) = fm s (s (171 + m)) (s (181 + m) + 1) k from if_neg (by omega)]
  · simp (disch := omega) only [un2, X8_nextBegin_b5, m_st, c_211, m_s h, Option.bind_some, nI_leI, Nat.le_refl, if_true]
  · rfl
theorem X8_endOf_s (h : M8 d s) (hV : Vd s) (hm : m < s 211) : X8_endOf (wld b d) (b + 243) (nI m) = some (nI (eT s m), wld b (ru d 248 301 (hI s (s (171 + m))))) := by
  have h10 := hV.ln
  have hq := hV.of (m := m) (by omega)
  have hb := hV.bg (m := m) (by omega)
  have hto := hV.to (m := m) (by omega)
  have hA := isA_m.2.2.2.2.1
  have h2 : M8 (ru d 248 301 (hI s (s (171 + m)))) s := h.ms (mS.ru (by omega))
  obtain ⟨l1, l2, l3, l4⟩ := eT_ok hV hm
  obtain ⟨n1, n2⟩ := lim_ok hV hm
  unfold X8_endOf
  simp (disch := omega) only [k_mod, Option.bind_some, m_st, c_171, c_181, nI_add, m_s h, X8_layHeights_s h hV hq, X8_nextBegin_s h2 hV hm, m_s h2]
  rw [wl_count (fun i => nI (s (181 + m) + i)) (eT s m - s (181 + m)) (nI (eT s m)) ?_ ?_ (by omega) ?_]
  · rfl
  · intro i hi
    obtain ⟨j1, j2⟩ := l4 (s (181 + m) + i) (by omega) (by omega)
    have hh := hgt_le hV hq (s (181 + m) + i)
    simp (disch := omega) only [un1, X8_endOf_b31, m_ht, m_st, Option.bind_some, lA_f hA, ru_in, c_191, nI_add, m_s h2]
    rw [if_neg (show ¬ hI s (s (171 + m)) (s (181 + m) + i) = _ from fun g => j2 ((nI_eq (by omega) (by omega)).mp g))]
    have hx : ¬ nI (s (181 + m) + i) = oJ ((fm s (s (171 + m)) (s (181 + m) + 1) (s 211)).map (fun j => s (181 + j))) := by
      cases hf : fm s (s (171 + m)) (s (181 + m) + 1) (s 211) with
      | none =>
        intro g
        have g2 : nI (s (181 + m) + i) < 0 := by rw [g]; exact show (-6 : Int32) < 0 by decide
        exact nI_pos (by omega) g2
      | some k =>
        obtain ⟨k1, -⟩ := fm_some _ k hf
        have c6 := hV.bg (m := k) (by omega)
        have e : lim s m = s (181 + k) := by unfold lim; rw [hf]
        intro g
        have g : nI (s (181 + m) + i) = nI (s (181 + k)) := g
        have := (nI_eq (by omega) (by omega)).mp g
        omega
    rw [if_neg hx, nI_1]
    rfl
  · have e : s (181 + m) + (eT s m - s (181 + m)) = eT s m := by omega
    rw [e]
    have hh := hgt_le hV hq (eT s m)
    simp (disch := omega) only [un1, X8_endOf_b31, m_ht, m_st, Option.bind_some, lA_f hA, ru_in, c_191, nI_add, m_s h2]
    by_cases c1 : hgt s (s (171 + m)) (eT s m) = s (191 + m)
    · rw [if_pos (show hI s (s (171 + m)) (eT s m) = _ from congrArg nI c1)]
    · rw [if_neg (show ¬ hI s (s (171 + m)) (eT s m) = _ from fun g => c1 ((nI_eq (by omega) (by omega)).mp g))]
      cases hf : fm s (s (171 + m)) (s (181 + m) + 1) (s 211) with
      | none => exact absurd (eT_in hV hm hf) c1
      | some k =>
        have e : lim s m = s (181 + k) := by unfold lim; rw [hf]
        rw [if_pos (show nI (eT s m) = oJ (Option.map (fun j => s (181 + j)) (some k)) from by show nI (eT s m) = nI (s (181 + k)); rw [← e]; rcases l3 with g | g; rw [g]; exact absurd g c1)]
  · rfl
/-- the rows of all bars, one behind the other -/
def lr (d : Da) (s : Sg) : Nat → Da
  | 0 => d
  | n + 1 => sg (ru (lr d s n) 248 301 (hI s n)) 249 (301 * n) 301 (hI s n)
theorem lr_mS (d : Da) (s : Sg) : ∀ n, mS d (lr d s n)
  | 0 => mS.rf d
  | n + 1 => ((lr_mS d s n).tr (mS.ru (by omega))).tr (fun k hk => sg_ne _ _ _ _ (by omega))
theorem lr_row (d : Da) (s : Sg) : ∀ n k, k ≠ 248 → k ≠ 249 → lr d s n k = d k
  | 0, _, _, _ => rfl
  | n + 1, k, h1, h2 => by
    simp only [lr]
    rw [sg_ne _ _ _ _ h2, ru_ne _ _ _ h1]
    exact lr_row d s n k h1 h2
theorem lr_in (d : Da) (s : Sg) : ∀ n q t, q < n → t ≤ 300 → lr d s n 249 (301 * q + t) = nI (hgt s q t)
  | 0, q, t, h, _ => by omega
  | n + 1, q, t, h, ht => by
    simp only [lr]
    by_cases e : q = n
    · subst e
      rw [sg_in _ _ _ _ _ (by omega)]
      rfl
    · rw [sg_out _ _ _ _ _ (by omega), ru_ne _ _ _ (by omega)]
      exact lr_in d s n q t (by omega) ht
theorem X8_layRows_s (h : M8 d s) (hV : Vd s) : X8_layRows (wld b d) (b + 243) = some (wld b (lr d s 10)) := by
  have hA := isA_m.2.2.2.2.1
  have hB := isA_m.2.2.2.2.2.1
  unfold X8_layRows
  rw [k_mod, Option.bind_some, wl_count (fun k => (wld b (lr d s k), nI k)) 10 (wld b (lr d s 10)) ?_ ?_ (by omega) ?_]
  · rfl
  · intro k hk
    have c1 : ¬ 10 ≤ k := by omega
    simp (disch := omega) only [un2, X8_layRows_b2, c_10, nI_leI, c1, if_false]
    rw [X8_layHeights_s (h.ms (lr_mS d s k)) hV hk, Option.bind_some, wl_count (fun t => (wld b (sg (ru (lr d s k) 248 301 (hI s k)) 249 (301 * k) t (hI s k)), nI t)) 301 (wld b (lr d s (k + 1))) ?_ ?_ (by omega) ?_]
    · rw [Option.bind_some, nI_1]
    · intro t ht
      have c2 : ¬ 300 < t := by omega
      simp (disch := omega) only [un2, X8_layRows_b15, c_300, nI_ltI, c2, if_false, m_rw, m_ht, Option.bind_some, lA_f hA, sg_ne, ru_in, c_301, pk_mul, nI_add, sA_f hB, nI_1]
      rw [sg_st _ _ _ _ _ rfl]
    · simp (disch := omega) only [un2, X8_layRows_b15, c_300, nI_ltI]
      rfl
    · rw [sg_0]
      rfl
  · simp (disch := omega) only [un2, X8_layRows_b2, c_10, nI_leI, Nat.le_refl, if_true]
  · rfl
theorem X8_doStrike_s {t : Nat} (h : M8 d s) (hV : Vd s) (hq : q < 10) (hr : r < 10) (ht : t ≤ 300) (hT : ∀ q t, q < 10 → t ≤ 300 → d 249 (301 * q + t) = nI (hgt s q t)) : X8_doStrike (wld b d) (b + 243) (nI q) (nI r) (nI t) = some (bI (hit s q r t)) := by
  have h1 := hV.dr hq
  have h2 := hV.dr hr
  have g1 := hgt_le hV hq t
  have g2 := hgt_le hV hr t
  have hB := isA_m.2.2.2.2.2.1
  have cmp : ∀ a c e : Nat, a < 1000 → c < 1000 → e < 1000 → (nI c ≤ nI a - nI e ↔ c + e ≤ a) := fun a c e ha hc he => by
    rw [Int32.le_iff_toInt_le, nI_toInt (by omega), pk_sub_toInt (by omega) (by omega)]
    omega
  unfold X8_doStrike
  simp (disch := omega) only [k_mod, Option.bind_some, m_rw, m_st, c_301, c_10, c_0, c_1, pk_mul, nI_add, lA_f hB, hT, m_s h, nI_leI, X8_doStrike_L56, X8_doStrike_L57, X8_areNear_s h hV hq hr, cmp]
  unfold hit can ovl
  by_cases k1 : s (10 + q) ≤ 0
  · rw [if_pos k1, if_pos trivial, show decide (0 < s (10 + q) ∧ 0 < s (10 + r)) = false by simp; omega]
    rfl
  · by_cases k2 : s (10 + r) ≤ 0
    · rw [if_neg k1, if_pos k2, if_pos trivial, show decide (0 < s (10 + q) ∧ 0 < s (10 + r)) = false by simp; omega]
      rfl
    · rw [if_neg k1, if_neg k2, if_neg (show ¬ nI 1 = nI 0 by decide), show decide (0 < s (10 + q) ∧ 0 < s (10 + r)) = true by simp; omega]
      cases hn : ner s q r with
      | false => rfl
      | true =>
        rw [if_neg (show ¬ bI true = nI 0 by decide)]
        by_cases k3 : hgt s r t + s (10 + q) ≤ hgt s q t
        · rw [if_pos k3, show decide (hgt s q t < hgt s r t + s (10 + q) ∧ hgt s r t < hgt s q t + s (10 + r)) = false by simp; omega]
          rfl
        · rw [if_neg k3]
          by_cases k4 : hgt s q t + s (10 + r) ≤ hgt s r t
          · rw [if_pos k4, show decide (hgt s q t < hgt s r t + s (10 + q) ∧ hgt s r t < hgt s q t + s (10 + r)) = false by simp; omega]
            rfl
          · rw [if_neg k4, show decide (hgt s q t < hgt s r t + s (10 + q) ∧ hgt s r t < hgt s q t + s (10 + r)) = true by simp; omega]
            rfl
end MODB
