/-! what the program's own rows hold -/
def cS (d d' : Da) : Prop := ∀ k, k < 75 ∨ 97 ≤ k → d' k = d k
def mS (d d' : Da) : Prop := ∀ k, k < 243 ∨ (244 ≤ k ∧ k < 247) → d' k = d k
theorem cS.rf (d : Da) : cS d d := fun _ _ => rfl
theorem mS.rf (d : Da) : mS d d := fun _ _ => rfl
theorem cS.tr {d d' d'' : Da} (h : cS d d') (h2 : cS d' d'') : cS d d'' := fun k hk => (h2 k hk).trans (h k hk)
theorem mS.tr {d d' d'' : Da} (h : mS d d') (h2 : mS d' d'') : mS d d'' := fun k hk => (h2 k hk).trans (h k hk)
theorem StR.cs {d d' : Da} {p : Nat} {s : Sg} (h : StR d p s) (hV : Vd s) (hp : isS p) (hd : cS d d') : StR d' p s := h.cg hV.ln (fun k h1 h2 => hd k (by rcases hp with rfl | rfl | rfl <;> omega))
theorem StR.ms {d d' : Da} {p : Nat} {s : Sg} (h : StR d p s) (hV : Vd s) (hp : isS p) (hd : mS d d') : StR d' p s := h.cg hV.ln (fun k h1 h2 => hd k (by have := isS_lt hp; omega))
theorem M8.cs {d d' : Da} {s : Sg} (h : M8 d s) (hd : cS d d') : M8 d' s := h.cg (hd 244 (by omega))
theorem M8.ms {d d' : Da} {s : Sg} (h : M8 d s) (hd : mS d d') : M8 d' s := h.cg (hd 244 (by omega))
theorem cS.ru {d : Da} {K n : Nat} {f : Nat → Int32} (h : 75 ≤ K ∧ K < 97) : cS d (ru d K n f) := fun k hk => ru_ne d n f (by omega)
theorem cS.du {d : Da} {K j : Nat} {v : Int32} (h : 75 ≤ K ∧ K < 97) : cS d (du d K j v) := fun k hk => du_row d j v (by omega)
theorem mS.ru {d : Da} {K n : Nat} {f : Nat → Int32} (h : K = 243 ∨ 247 ≤ K) : mS d (ru d K n f) := fun k hk => ru_ne d n f (by omega)
theorem mS.du {d : Da} {K j : Nat} {v : Int32} (h : K = 243 ∨ 247 ≤ K) : mS d (du d K j v) := fun k hk => du_row d j v (by omega)
/-- bar q is traced -/
def Tr (d : Da) (s : Sg) (q : Nat) : Prop := ∀ t, t ≤ 300 → d (81 + q) t = nI (hgt s q t)
def ra (d : Da) (s : Sg) : Nat → Da
  | 0 => d
  | n + 1 => ru (ra d s n) (81 + n) 301 (fun t => nI (hgt s n t))
theorem ra_cS (d : Da) (s : Sg) : ∀ n, n ≤ 10 → cS d (ra d s n)
  | 0, _ => cS.rf d
  | n + 1, h => (ra_cS d s n (by omega)).tr (cS.ru (by omega))
theorem ra_row (d : Da) (s : Sg) : ∀ n k, k < 81 ∨ 91 ≤ k → n ≤ 10 → ra d s n k = d k
  | 0, _, _, _ => rfl
  | n + 1, k, h, hn => by
    simp only [ra]
    rw [ru_ne _ _ _ (by omega)]
    exact ra_row d s n k h (by omega)
theorem ra_Tr (d : Da) (s : Sg) : ∀ n q, q < n → Tr (ra d s n) s q
  | 0, q, h => by omega
  | n + 1, q, h => by
    intro t ht
    simp only [ra]
    by_cases e : q = n
    · subst e
      rw [ru_in _ _ _ _ (by omega)]
    · rw [ru_ne _ _ _ (by omega)]
      exact ra_Tr d s n q (by omega) t ht
theorem fnd_le {p : Nat → Bool} : ∀ n t, t ≤ fnd p n t ∧ fnd p n t ≤ t + n
  | 0, t => by simp [fnd]
  | n + 1, t => by
    simp only [fnd]
    split
    · omega
    · have := fnd_le (p := p) n (t + 1); omega
theorem fnd_no {p : Nat → Bool} : ∀ n t j, t ≤ j → j < fnd p n t → p j = false
  | 0, t, j, h1, h2 => by simp [fnd] at h2; omega
  | n + 1, t, j, h1, h2 => by
    simp only [fnd] at h2
    by_cases c : p t = true
    · rw [if_pos c] at h2; omega
    · rw [if_neg c] at h2
      by_cases e : j = t
      · subst e; simpa using c
      · exact fnd_no n (t + 1) j (by omega) h2
theorem fnd_yes {p : Nat → Bool} : ∀ n t, fnd p n t < t + n → p (fnd p n t) = true
  | 0, t, h => by simp [fnd] at h
  | n + 1, t, h => by
    simp only [fnd] at h ⊢
    by_cases c : p t = true
    · rw [if_pos c]; exact c
    · rw [if_neg c] at h ⊢
      exact fnd_yes n (t + 1) (by omega)
def can (s : Sg) (q r : Nat) : Bool := decide (0 < s (10 + q) ∧ 0 < s (10 + r)) && ner s q r
def ovl (s : Sg) (q r t : Nat) : Bool := decide (hgt s q t < hgt s r t + s (10 + q) ∧ hgt s r t < hgt s q t + s (10 + r))
def hit (s : Sg) (q r t : Nat) : Bool := can s q r && ovl s q r t
theorem ovl_i {a c e f : Nat} (ha : a < 1000) (hc : c < 1000) (he : e < 1000) (hf : f < 1000) : iMin (nI a) (nI c) ≤ iMax (nI a - nI e) (nI c - nI f) ↔ (e = 0 ∨ f = 0 ∨ c + e ≤ a ∨ a + f ≤ c) := by
  have e1 : (nI a).toInt = a := nI_toInt (by omega)
  have e2 : (nI c).toInt = c := nI_toInt (by omega)
  have e3 : (nI a - nI e).toInt = (a : Int) - e := pk_sub_toInt (by omega) (by omega)
  have e4 : (nI c - nI f).toInt = (c : Int) - f := pk_sub_toInt (by omega) (by omega)
  unfold iMin iMax
  by_cases h1 : nI c < nI a
  · by_cases h2 : nI a - nI e < nI c - nI f
    · rw [if_pos h1, if_pos h2, Int32.le_iff_toInt_le, e2, e4]
      rw [Int32.lt_iff_toInt_lt, e1, e2] at h1
      rw [Int32.lt_iff_toInt_lt, e3, e4] at h2
      omega
    · rw [if_pos h1, if_neg h2, Int32.le_iff_toInt_le, e2, e3]
      rw [Int32.lt_iff_toInt_lt, e1, e2] at h1
      rw [Int32.lt_iff_toInt_lt, e3, e4] at h2
      omega
  · by_cases h2 : nI a - nI e < nI c - nI f
    · rw [if_neg h1, if_pos h2, Int32.le_iff_toInt_le, e1, e4]
      rw [Int32.lt_iff_toInt_lt, e1, e2] at h1
      rw [Int32.lt_iff_toInt_lt, e3, e4] at h2
      omega
    · rw [if_neg h1, if_neg h2, Int32.le_iff_toInt_le, e1, e3]
      rw [Int32.lt_iff_toInt_lt, e1, e2] at h1
      rw [Int32.lt_iff_toInt_lt, e3, e4] at h2
      omega
section FLIGHT
variable {b : Nat} {d : Da} {p q r i m : Nat} {s : Sg}
theorem X2_traceAll_s (hp : isS p) (hR : StR d p s) (hV : Vd s) : X2_traceAll (wld b d) (b + 79) (b + p) = some (wld b (ra d s 10)) := by
  unfold X2_traceAll
  rw [k_flt, Option.bind_some, wl_count (fun k => (wld b (ra d s k), nI k)) 10 (wld b (ra d s 10)) ?_ ?_ (by omega) ?_]
  · rfl
  · intro k hk
    have c1 : ¬ 10 ≤ k := by omega
    simp (disch := omega) only [un2, X2_traceAll_b2, c_10, nI_leI, c1, if_false]
    rw [X2_trace_s hp (hR.cs hV hp (ra_cS d s k (by omega))) hV hk, Option.bind_some, nI_1]
    rfl
  · simp (disch := omega) only [un2, X2_traceAll_b2, c_10, nI_leI, Nat.le_refl, if_true]
  · rfl
theorem X2_endOf_s (hp : isS p) (hR : StR d p s) (hV : Vd s) (hm : m < s 211) (hT : Tr d s (s (171 + m))) : X2_endOf (wld b d) (b + 79) (b + p) (nI m) = some (nI (eT s m)) := by
  have h10 := hV.ln
  have hq := hV.of (m := m) (by omega)
  have hb := hV.bg (m := m) (by omega)
  have hto := hV.to (m := m) (by omega)
  obtain ⟨l1, l2, l3, l4⟩ := eT_ok hV hm
  obtain ⟨n1, n2⟩ := lim_ok hV hm
  have key : X2_endOf_L44 (wld b d) (b + 79) (b + lMov p m) (nI (lim s m)) = some (nI (eT s m)) := by
    unfold X2_endOf_L44
    simp (disch := omega) only [f_mv hp, hR.m1, Option.bind_some]
    rw [wl_count (fun i => nI (s (181 + m) + i)) (eT s m - s (181 + m)) (nI (eT s m)) ?_ ?_ (by omega) ?_]
    · rfl
    · intro i hi
      obtain ⟨j1, j2⟩ := l4 (s (181 + m) + i) (by omega) (by omega)
      have hh := hgt_le hV hq (s (181 + m) + i)
      have c1 : ¬ lim s m ≤ s (181 + m) + i := by omega
      simp (disch := omega) only [un1, X2_endOf_b52, nI_leI, c1, if_false, f_flt, Option.bind_some, f_mv hp, hR.m0, hR.m2, f_hts hq, lA_f (isA_row hq)]
      rw [hT _ (by omega), if_neg (fun g => j2 ((nI_eq (by omega) (by omega)).mp g)), nI_1]
      rfl
    · have e : s (181 + m) + (eT s m - s (181 + m)) = eT s m := by omega
      rw [e]
      have hh := hgt_le hV hq (eT s m)
      simp (disch := omega) only [un1, X2_endOf_b52, nI_leI]
      by_cases c1 : lim s m ≤ eT s m
      · rw [if_pos c1]
      · rw [if_neg c1]
        simp (disch := omega) only [f_flt, Option.bind_some, f_mv hp, hR.m0, hR.m2, f_hts hq, lA_f (isA_row hq)]
        rw [hT _ (by omega), if_pos ((nI_eq (by omega) (by omega)).mpr (by rcases l3 with g | g; omega; exact g))]
    · rfl
  unfold X2_endOf
  simp (disch := omega) only [k_flt, Option.bind_some, f_movs hp, f_mov hp, f_mv hp, hR.m0, hR.m1, nI_1, c_1, nI_add, X6_firstMoveFrom_s hp hR hV hq]
  cases hf : fm s (s (171 + m)) (s (181 + m) + 1) (s 211) with
  | none =>
    rw [if_neg (show ¬ (0 : Int32) ≤ oI none by decide), c_300]
    rw [show lim s m = 300 by unfold lim; rw [hf]] at key
    exact key
  | some k =>
    obtain ⟨k1, -⟩ := fm_some _ k hf
    rw [if_pos (show (0 : Int32) ≤ oI (some k) from nI_pos' (by omega))]
    simp (disch := omega) only [oI_some, f_movs hp, f_mov hp, f_mv hp, hR.m1, Option.bind_some]
    rw [show lim s m = s (181 + k) by unfold lim; rw [hf]] at key
    exact key
theorem X2_canStrike_s (hp : isS p) (hR : StR d p s) (hV : Vd s) (hq : q < 10) (hr : r < 10) : X2_canStrike (wld b d) (b + 79) (b + p) (nI q) (nI r) = some (bI (can s q r)) := by
  have h1 := hV.dr hq
  have h2 := hV.dr hr
  unfold X2_canStrike
  simp (disch := omega) only [k_flt, Option.bind_some, f_bars hp, f_bar hp hq, f_bar hp hr, f_set hp hq, f_set hp hr, c_1, c_0, lA_f (isA_set hp hq) (show 1 < 3 by decide), lA_f (isA_set hp hr) (show 1 < 3 by decide), hR.s1 hq, hR.s1 hr, nI_leI, X2_canStrike_L32, X2_canStrike_L33, X6_areNear_s hp hR hV hq hr]
  unfold can
  by_cases g1 : s (10 + q) ≤ 0
  · rw [if_pos g1, if_pos trivial, show decide (0 < s (10 + q) ∧ 0 < s (10 + r)) = false by simp; omega]
    rfl
  · by_cases g2 : s (10 + r) ≤ 0
    · rw [if_neg g1, if_pos g2, if_pos trivial, show decide (0 < s (10 + q) ∧ 0 < s (10 + r)) = false by simp; omega]
      rfl
    · rw [if_neg g1, if_neg g2, if_neg (show ¬ nI 1 = nI 0 by decide), show decide (0 < s (10 + q) ∧ 0 < s (10 + r)) = true by simp; omega]
      cases ner s q r <;> rfl
theorem X2_overlap_s {t : Nat} (hp : isS p) (hR : StR d p s) (hV : Vd s) (hq : q < 10) (hr : r < 10) (ht : t ≤ 300) (hT1 : Tr d s q) (hT2 : Tr d s r) (h0 : can s q r = true) : X2_overlap (wld b d) (b + 79) (b + p) (nI q) (nI r) (nI t) = some (bI (ovl s q r t)) := by
  have h1 := hV.dr hq
  have h2 := hV.dr hr
  have g1 := hgt_le hV hq t
  have g2 := hgt_le hV hr t
  unfold X2_overlap
  simp (disch := omega) only [k_flt, Option.bind_some, f_flt, f_hts hq, f_hts hr, lA_f (isA_row hq), lA_f (isA_row hr), f_bars hp, f_bar hp hq, f_bar hp hr, f_set hp hq, f_set hp hr, c_1, lA_f (isA_set hp hq) (show 1 < 3 by decide), lA_f (isA_set hp hr) (show 1 < 3 by decide), hR.s1 hq, hR.s1 hr]
  rw [hT1 t ht, hT2 t ht]
  simp (disch := omega) only [ovl_i]
  unfold can at h0
  simp at h0
  unfold ovl bI
  by_cases c : hgt s q t < hgt s r t + s (10 + q) ∧ hgt s r t < hgt s q t + s (10 + r)
  · rw [if_neg (by omega), if_pos (by simpa using c)]
    rfl
  · rw [if_pos (by omega), if_neg (by simpa using c)]
def fs (s : Sg) (q r f l : Nat) : Nat := if can s q r then fnd (ovl s q r) (l - f) f else l
theorem X2_firstStrike_s {f l : Nat} (hp : isS p) (hR : StR d p s) (hV : Vd s) (hq : q < 10) (hr : r < 10) (hfl : f ≤ l) (hl : l ≤ 301) (hT1 : Tr d s q) (hT2 : Tr d s r) : X2_firstStrike (wld b d) (b + 79) (b + p) (nI q) (nI r) (nI f) (nI l) = some (nI (fs s q r f l)) := by
  unfold X2_firstStrike fs
  rw [k_flt, Option.bind_some, X2_canStrike_s hp hR hV hq hr, Option.bind_some]
  simp only [bI_0]
  cases h0 : can s q r with
  | false => simp
  | true =>
    simp only [if_neg (show ¬ true = false by decide), if_true]
    have a1 := fnd_le (p := ovl s q r) (l - f) f
    by_cases c : fnd (ovl s q r) (l - f) f < l
    · rw [wl_count (fun i => nI (f + i)) (fnd (ovl s q r) (l - f) f - f) (.inl (nI (fnd (ovl s q r) (l - f) f))) ?_ ?_ (by omega) ?_]
      · rfl
      · intro i hi
        have c1 : ¬ l ≤ f + i := by omega
        simp (disch := omega) only [un1, X2_firstStrike_b17, nI_leI, c1, if_false, X2_overlap_s hp hR hV hq hr (t := f + i) (by omega) hT1 hT2 h0, Option.bind_some, fnd_no (p := ovl s q r) (l - f) f (f + i) (by omega) (by omega)]
        rw [if_pos (by decide), nI_1]
        rfl
      · have e : f + (fnd (ovl s q r) (l - f) f - f) = fnd (ovl s q r) (l - f) f := by omega
        rw [e]
        have c1 : ¬ l ≤ fnd (ovl s q r) (l - f) f := by omega
        simp (disch := omega) only [un1, X2_firstStrike_b17, nI_leI, c1, if_false, X2_overlap_s hp hR hV hq hr (t := fnd (ovl s q r) (l - f) f) (by omega) hT1 hT2 h0, Option.bind_some, fnd_yes (p := ovl s q r) (l - f) f (by omega)]
        rw [if_neg (by decide)]
      · rfl
    · have e2 : fnd (ovl s q r) (l - f) f = l := by omega
      rw [wl_count (fun i => nI (f + i)) (l - f) (.inr ()) ?_ ?_ (by omega) ?_]
      · simp only [Option.bind_some, sOf, e2]
      · intro i hi
        have c1 : ¬ l ≤ f + i := by omega
        simp (disch := omega) only [un1, X2_firstStrike_b17, nI_leI, c1, if_false, X2_overlap_s hp hR hV hq hr (t := f + i) (by omega) hT1 hT2 h0, Option.bind_some, fnd_no (p := ovl s q r) (l - f) f (f + i) (by omega) (by omega)]
        rw [if_pos (by decide), nI_1]
        rfl
      · have c1 : l ≤ f + (l - f) := by omega
        simp (disch := omega) only [un1, X2_firstStrike_b17, nI_leI, c1, if_true]
      · rfl
theorem X2_strikesOf_s (hp : isS p) (hR : StR d p s) (hV : Vd s) (hq : q < 10) (hr : r < 10) (hT1 : Tr d s q) (hT2 : Tr d s r) : X2_strikesOf (wld b d) (b + 79) (b + p) (nI q) (nI r) = some (nI (cN (hit s q r) 301)) := by
  unfold X2_strikesOf
  rw [k_flt, Option.bind_some, X2_canStrike_s hp hR hV hq hr, Option.bind_some]
  simp only [bI_0]
  cases h0 : can s q r with
  | false =>
    have : ∀ n, cN (hit s q r) n = 0 := fun n => by
      induction n with
      | zero => rfl
      | succ n ih => rw [cN_succ, ih]; simp [hit, h0]
    rw [if_pos rfl, this]
    rfl
  | true =>
    have e : hit s q r = ovl s q r := by funext t; simp [hit, h0]
    rw [if_neg (by decide), e, wl_count (fun i => (nI (cN (ovl s q r) i), nI i)) 301 (nI (cN (ovl s q r) 301)) ?_ ?_ (by omega) ?_]
    · rfl
    · intro i hi
      have c1 : ¬ 300 < i := by omega
      simp (disch := omega) only [un2, X2_strikesOf_b18, c_300, nI_ltI, c1, if_false, X2_overlap_s hp hR hV hq hr (t := i) (by omega) hT1 hT2 h0, Option.bind_some, bI_0, cN_succ, nI_1]
      cases ovl s q r i <;> simp
    · simp (disch := omega) only [un2, X2_strikesOf_b18, c_300, nI_ltI]
      rfl
    · rfl
end FLIGHT
