/-! TAKE -/
/-- the reference's row, written anew -/
def fS (d : Da) (s : Sg) : Da := fun K j => if K = 244 ∧ j < 212 then nI (s j) else d K j
theorem fS_M (d : Da) (s : Sg) : M8 (fS d s) s := fun i hi => if_pos ⟨rfl, hi⟩
theorem fS_id {d : Da} {s : Sg} (h : M8 d s) : fS d s = d := by
  funext K j
  unfold fS
  by_cases c : K = 244 ∧ j < 212
  · rw [if_pos c, c.1, h j c.2]
  · rw [if_neg c]
theorem fS_ne (d : Da) (s : Sg) {K : Nat} (h : K ≠ 244) : fS d s K = d K := by
  funext j
  exact if_neg (fun g => h g.1)
theorem fS_du (d : Da) (s : Sg) {j v : Nat} (hj : j < 212) : du (fS d s) 244 j (nI v) = fS d (sU s j v) := by
  funext K i
  rw [du_at]
  unfold fS sU
  by_cases c : K = 244 ∧ i = j
  · rw [if_pos c, if_pos ⟨c.1, by omega⟩, if_pos c.2]
  · rw [if_neg c]
    by_cases c2 : K = 244 ∧ i < 212
    · rw [if_pos c2, if_pos c2, if_neg (by omega)]
    · rw [if_neg c2, if_neg c2]
theorem m_set {b : Nat} {d : Da} {s : Sg} {j v : Nat} (hj : j < 212) : sA (wld b (fS d s)) (b + 244) (nI j) (nI v) = some (wld b (fS d (sU s j v))) := by rw [sA_f isA_m.1 hj, fS_du d s hj]
theorem in_m1 {x : Int32} {n : Nat} (hn : n < 2 ^ 30) (h : 0 ≤ x ∧ x ≤ nI n - 1) : ∃ j, j < n ∧ x = nI j := by
  cases n with
  | zero =>
    have h2 : x ≤ (-1 : Int32) := h.2
    have h3 : (0 : Int32) ≤ -1 := Int32.le_trans h.1 h2
    exact absurd h3 (by decide)
  | succ n =>
    rw [c_1, pk_sub (by omega)] at h
    obtain ⟨j, h1, h2⟩ := in_nI (n := n) (by omega) h
    exact ⟨j, by omega, h2⟩
/-- the state behind the taking of the x-th thing -/
def tkS (s : Sg) (q i x k : Nat) : Sg := fun a => if 50 + 12 * q + 6 * i + x ≤ a ∧ a < 50 + 12 * q + 6 * i + x + k then s (a + 1) else if a = 30 + 10 * i + q then s a - 1 else s a
section TAKE
variable {b : Nat} {d : Da} {q r i x m : Nat} {s : Sg}
theorem tk_0 (s : Sg) (q i x : Nat) : tkS s q i x 0 = sU s (30 + 10 * i + q) (s (30 + 10 * i + q) - 1) := by
  funext a
  unfold tkS sU
  rw [if_neg (by omega)]
  by_cases e : a = 30 + 10 * i + q
  · rw [if_pos e, if_pos e, e]
  · rw [if_neg e, if_neg e]
theorem tk_st (s : Sg) {q i x k : Nat} (h : q < 10) (hi : i < 2) : sU (tkS s q i x k) (50 + 12 * q + 6 * i + x + k) (tkS s q i x k (50 + 12 * q + 6 * i + x + k + 1)) = tkS s q i x (k + 1) := by
  funext a
  unfold tkS sU
  by_cases e : a = 50 + 12 * q + 6 * i + x + k
  · rw [if_pos e, if_neg (by omega), if_neg (by omega), if_pos (by omega), e]
  · rw [if_neg e]
    dsimp only
    by_cases c : 50 + 12 * q + 6 * i + x ≤ a ∧ a < 50 + 12 * q + 6 * i + x + k
    · rw [if_pos c, if_pos (by omega)]
    · rw [if_neg c, if_neg (c := 50 + 12 * q + 6 * i + x ≤ a ∧ a < 50 + 12 * q + 6 * i + x + (k + 1)) (by omega)]
theorem Vd.tk {s : Sg} (h : Vd s) {q i x : Nat} (hq : q < 10) (hi : i < 2) (hx : x < s (30 + 10 * i + q)) : Vd (tkS s q i x (s (30 + 10 * i + q) - 1 - x)) := by
  have h66 := h.mn hq hi
  obtain ⟨h1, h2, h3, h4, h5, h6, h7, h8⟩ := h
  have e0 : ∀ a, (a < 30 ∨ 170 ≤ a) → tkS s q i x (s (30 + 10 * i + q) - 1 - x) a = s a := fun a ha => by
    unfold tkS
    rw [if_neg (by omega), if_neg (by omega)]
  refine ⟨fun q' hq' => ?_, fun q' i' hq' hi' => ?_, fun q' i' j hq' hi' hj => ?_, ?_, ?_, fun m hm => ?_, fun m hm => ?_, fun m j hm hj => ?_⟩
  · rw [e0 _ (by omega), e0 _ (by omega), e0 _ (by omega)]; exact h1 q' hq'
  · have := h2 q' i' hq' hi'
    unfold tkS
    rw [if_neg (by omega)]
    split <;> omega
  · have g1 := h3 q' i' j hq' hi' hj
    unfold tkS
    split
    · rename_i c
      have g2 := h3 q i (50 + 12 * q' + 6 * i' + j + 1 - (50 + 12 * q + 6 * i)) hq hi (by omega)
      rw [show 50 + 12 * q + 6 * i + (50 + 12 * q' + 6 * i' + j + 1 - (50 + 12 * q + 6 * i)) = 50 + 12 * q' + 6 * i' + j + 1 by omega] at g2
      exact g2
    · rw [if_neg (by omega)]
      exact g1
  · rw [e0 _ (by omega)]; exact h4
  · rw [e0 _ (by omega)]; exact h5
  · rw [e0 _ (by omega), e0 _ (by omega), e0 _ (by omega), e0 _ (by omega)]; exact h6 m hm
  · rw [e0 _ (by omega)] at hm ⊢; exact h7 m hm
  · rw [e0 _ (by omega)] at hm hj
    rw [e0 _ (by omega), e0 _ (by omega), e0 _ (by omega), e0 _ (by omega)]
    exact h8 m j hm hj
/-- the program's pile behind it -/
def tD (d : Da) (W x k : Nat) : Da := fun K j => if K = W ∧ x ≤ j ∧ j < x + k then d K (j + 1) else d K j
theorem tD_st (d : Da) (W x k : Nat) : du (tD d W x k) W (x + k) (d W (x + k + 1)) = tD d W x (k + 1) := by
  funext K j
  rw [du_at]
  unfold tD
  by_cases e : K = W ∧ j = x + k
  · rw [if_pos e, if_pos ⟨e.1, by omega, by omega⟩, e.1, e.2]
  · rw [if_neg e]
    by_cases c : K = W ∧ x ≤ j ∧ j < x + k
    · rw [if_pos c, if_pos ⟨c.1, by omega, by omega⟩]
    · rw [if_neg c, if_neg (c := K = W ∧ x ≤ j ∧ j < x + (k + 1)) (by omega)]
theorem X5_remove_s (hR : StR d 1 s) (hV : Vd s) (hq : q < 10) (hi : i < 2) (hx : x < s (30 + 10 * i + q)) : X5_remove (wld b d) (b + lPil 1 q i) (nI x) = some (nI (s (50 + 12 * q + 6 * i + x)), wld b (du (tD d (lWei 1 q i) x (s (30 + 10 * i + q) - 1 - x)) (lPil 1 q i) 1 (nI (s (30 + 10 * i + q) - 1)))) := by
  have h6 := hV.mn hq hi
  have z : ∀ k, tD d (lWei 1 q i) x k (lPil 1 q i) = d (lPil 1 q i) := fun k => by
    funext j
    unfold tD
    exact if_neg (fun g => absurd g.1 (by unfold lPil lWei; omega))
  unfold X5_remove
  simp (disch := omega) only [k_pil isS_1 hq hi, Option.bind_some, f_wei isS_1 hq hi, lA_f (isA_wei isS_1 hq hi), hR.we hq hi hx, c_1, nI_add]
  rw [wl_count (fun k => (wld b (tD d (lWei 1 q i) x k), nI (x + 1 + k))) (s (30 + 10 * i + q) - 1 - x) (wld b (tD d (lWei 1 q i) x (s (30 + 10 * i + q) - 1 - x))) ?_ ?_ (by omega) ?_]
  · simp (disch := omega) only [Option.bind_some, f_siz isS_1 hq hi, z, hR.pi hq hi, pk_sub, p_siz isS_1 hq hi]
  · intro k hk
    have c1 : ¬ s (30 + 10 * i + q) ≤ x + 1 + k := by omega
    have e1 : tD d (lWei 1 q i) x k (lWei 1 q i) (x + 1 + k) = d (lWei 1 q i) (x + k + 1) := by
      unfold tD
      rw [if_neg (by omega), show x + 1 + k = x + k + 1 by omega]
    simp (disch := omega) only [un2, X5_remove_b11, f_siz isS_1 hq hi, z, hR.pi hq hi, Option.bind_some, nI_leI, c1, if_false, f_wei isS_1 hq hi, lA_f (isA_wei isS_1 hq hi), e1, pk_sub, c_1]
    rw [show x + 1 + k - 1 = x + k by omega, sA_f (isA_wei isS_1 hq hi) (by omega), tD_st, Option.bind_some, nI_add]
    rfl
  · have c1 : s (30 + 10 * i + q) ≤ x + 1 + (s (30 + 10 * i + q) - 1 - x) := by omega
    simp (disch := omega) only [un2, X5_remove_b11, f_siz isS_1 hq hi, z, hR.pi hq hi, Option.bind_some, nI_leI, c1, if_true]
  · congr 2
    funext K j
    unfold tD
    rw [if_neg (by omega)]
theorem X8_take_s (hM : M8 d s) (hV : Vd s) (hq : q < 10) (hi : i < 2) (hx : x < s (30 + 10 * i + q)) : X8_take (wld b d) (b + 243) (nI q) (nI i) (nI x) = some (nI (s (50 + 12 * q + 6 * i + x)), wld b (fS d (tkS s q i x (s (30 + 10 * i + q) - 1 - x)))) := by
  have h6 := hV.mn hq hi
  unfold X8_take
  have c1 : 0 ≤ nI q ∧ nI q ≤ 9 := ⟨nI_pos' (by omega), nI_le (b := 9) (by omega) (by omega)⟩
  have c2 : 0 ≤ nI i ∧ nI i ≤ 1 := ⟨nI_pos' (by omega), nI_le (b := 1) (by omega) (by omega)⟩
  have c3 : 0 ≤ nI x ∧ nI x ≤ nI (s (30 + 10 * i + q) - 1) := ⟨nI_pos' (by omega), nI_le (by omega) (by omega)⟩
  simp (disch := omega) only [k_mod, Option.bind_some, X8_isBar_s, X8_in_s, ifb_t c1, ifb_t c2, X8_many_s hM hq hi, c_1, pk_sub, ifb_t c3, X8_weight_s hM hq hi, m_st, c_30, c_10, pk_mul, nI_add, m_s hM]
  rw [← fS_id hM, m_set (by omega), Option.bind_some]
  rw [wl_count (fun k => (wld b (fS d (tkS s q i x k)), nI (x + k))) (s (30 + 10 * i + q) - 1 - x) (wld b (fS d (tkS s q i x (s (30 + 10 * i + q) - 1 - x)))) ?_ ?_ (by omega) ?_]
  · rw [Option.bind_some, fS_id hM]
    exact ifb_t (P := 0 ≤ nI i ∧ nI i ≤ nI 1) c2
  · intro k hk
    have z : tkS s q i x k (30 + 10 * i + q) = s (30 + 10 * i + q) - 1 := by
      unfold tkS
      rw [if_neg (by omega), if_pos rfl]
    have c4 : ¬ s (30 + 10 * i + q) - 1 ≤ x + k := by omega
    simp (disch := omega) only [un2, X8_take_b70, X8_many_s (fS_M d _) hq hi, z, Option.bind_some, nI_leI, c4, if_false, m_st, c_1, nI_add, X8_weight_s (fS_M d _) hq hi, c_50, c_12, c_6, pk_mul]
    rw [show 50 + 12 * q + 6 * i + (x + k) = 50 + 12 * q + 6 * i + x + k by omega, show 50 + 12 * q + 6 * i + (x + k + 1) = 50 + 12 * q + 6 * i + x + k + 1 by omega, m_set (by omega), tk_st s hq hi]
    rfl
  · have z : tkS s q i x (s (30 + 10 * i + q) - 1 - x) (30 + 10 * i + q) = s (30 + 10 * i + q) - 1 := by
      unfold tkS
      rw [if_neg (by omega), if_pos rfl]
    have c4 : s (30 + 10 * i + q) - 1 ≤ x + (s (30 + 10 * i + q) - 1 - x) := by omega
    simp (disch := omega) only [un2, X8_take_b70, X8_many_s (fS_M d _) hq hi, z, Option.bind_some, nI_leI, c4, if_true]
  · rw [tk_0]
    rfl
theorem StR.tk {d : Da} {s : Sg} (h : StR d 1 s) (hV : Vd s) {q i x : Nat} (hq : q < 10) (hi : i < 2) (hx : x < s (30 + 10 * i + q)) : StR (du (tD d (lWei 1 q i) x (s (30 + 10 * i + q) - 1 - x)) (lPil 1 q i) 1 (nI (s (30 + 10 * i + q) - 1))) 1 (tkS s q i x (s (30 + 10 * i + q) - 1 - x)) := by
  have hln := hV.ln
  have h66 := hV.mn hq hi
  have e0 : ∀ a, (a < 30 ∨ 170 ≤ a) → tkS s q i x (s (30 + 10 * i + q) - 1 - x) a = s a := fun a ha => by
    unfold tkS
    rw [if_neg (by omega), if_neg (by omega)]
  have z : ∀ K, K ≠ lWei 1 q i → K ≠ lPil 1 q i → (du (tD d (lWei 1 q i) x (s (30 + 10 * i + q) - 1 - x)) (lPil 1 q i) 1 (nI (s (30 + 10 * i + q) - 1))) K = d K := fun K k1 k2 => by
    rw [du_row _ _ _ k2]
    funext j
    exact if_neg (fun g => k1 g.1)
  obtain ⟨h1, h2, h3, h4, h5, h6⟩ := h
  refine ⟨fun q' w' hq' hw' => ?_, fun q' i' hq' hi' => ?_, fun q' i' k hq' hi' hk => ?_, ?_, ?_, fun m f hm hf => ?_⟩
  · rw [z _ (by unfold lSet lWei; omega) (by unfold lSet lPil; omega), e0 _ (by omega)]; exact h1 q' w' hq' hw'
  · have e1 : ∀ q' i', q' < 10 → i' < 2 → tkS s q i x (s (30 + 10 * i + q) - 1 - x) (30 + 10 * i' + q') = if q' = q ∧ i' = i then s (30 + 10 * i' + q') - 1 else s (30 + 10 * i' + q') := fun q' i' a1 a2 => by
      unfold tkS
      rw [if_neg (by omega)]
      by_cases e : q' = q ∧ i' = i
      · rw [if_pos e, if_pos (by omega)]
      · rw [if_neg e, if_neg (by omega)]
    rw [e1 q' i' hq' hi']
    by_cases e : q' = q ∧ i' = i
    · rw [if_pos e, e.1, e.2, du_self]
    · rw [if_neg e, z _ (by unfold lPil lWei; omega) (by unfold lPil; omega)]; exact h2 q' i' hq' hi'
  · have h6' := hV.mn hq' hi'
    by_cases e : q' = q ∧ i' = i
    · rw [e.1, e.2] at hk ⊢
      have hk : k < s (30 + 10 * i + q) - 1 := by
        unfold tkS at hk
        rw [if_neg (by omega), if_pos rfl] at hk
        exact hk
      rw [du_row _ _ _ (by unfold lPil lWei; omega)]
      unfold tD tkS
      by_cases c : x ≤ k
      · rw [if_pos ⟨rfl, c, by omega⟩, if_pos (by omega)]
        exact h3 q i (k + 1) hq hi (by omega)
      · rw [if_neg (by omega), if_neg (by omega), if_neg (by omega)]
        exact h3 q i k hq hi (by omega)
    · have hk : k < s (30 + 10 * i' + q') := by
        unfold tkS at hk
        rw [if_neg (by omega), if_neg (by omega)] at hk
        exact hk
      rw [z _ (by unfold lWei; omega) (by unfold lPil lWei; omega)]
      unfold tkS
      rw [if_neg (by omega), if_neg (by omega)]
      exact h3 q' i' k hq' hi' hk
  · rw [z _ (by unfold lWei; omega) (by unfold lPil; omega), e0 _ (by omega)]; exact h4
  · rw [z _ (by unfold lWei; omega) (by unfold lPil; omega), e0 _ (by omega)]; exact h5
  · rw [e0 _ (by omega)] at hm
    rw [z _ (by unfold lMov lWei; omega) (by unfold lMov lPil; omega), e0 _ (by omega)]; exact h6 m f hm hf
theorem q_take (hJ : Iv d s) (x1 x2 x3 : Int32) : ∃ r d1 d2 s', X7_take (wld b d) b x1 x2 x3 = some (r, wld b d1) ∧ X8_take (wld b d1) (b + 243) x1 x2 x3 = some (r, wld b d2) ∧ Iv d2 s' := by
  obtain ⟨hV, hR, hM, kb, hIm⟩ := id hJ
  by_cases c1 : 0 ≤ x1 ∧ x1 ≤ 9
  · by_cases c2 : 0 ≤ x2 ∧ x2 ≤ 1
    · obtain ⟨q, hq, rfl⟩ := in_nI (n := 9) (by omega) c1
      obtain ⟨i, hi, rfl⟩ := in_nI (n := 1) (by omega) c2
      have hq : q < 10 := by omega
      have hi : i < 2 := by omega
      have h6 := hV.mn hq hi
      by_cases c3 : 0 ≤ x3 ∧ x3 ≤ nI (s (30 + 10 * i + q)) - 1
      · obtain ⟨x, hx, rfl⟩ := in_m1 (by omega) c3
        have hM1 : M8 (du (tD d (lWei 1 q i) x (s (30 + 10 * i + q) - 1 - x)) (lPil 1 q i) 1 (nI (s (30 + 10 * i + q) - 1))) s := hM.cg (by
          rw [du_row _ _ _ (by unfold lPil; omega)]
          funext j
          exact if_neg (fun g => absurd g.1 (by unfold lWei; omega)))
        refine ⟨nI (s (50 + 12 * q + 6 * i + x)), _, _, _, ?_, X8_take_s hM1 hV hq hi hx, Iv.mk (hV.tk hq hi hx) (hR.tk hV hq hi hx) (fS_M _ _) hIm (fun k a => ?_) (fun k a => fS_ne _ _ a)⟩
        · unfold X7_take
          simp only [k_top, Option.bind_some, X7_isBar_s, X7_within_s, ifb_t c1, ifb_t c2, t_stg, f_bars isS_1, f_bar isS_1 hq, X0_pileOf_s isS_1 hq hi, f_siz isS_1 hq hi, hR.pi hq hi, ifb_t c3, X5_remove_s hR hV hq hi hx, un2]
        · rw [du_row _ _ _ (by unfold lPil; omega)]
          funext j
          exact if_neg (fun g => absurd g.1 (by unfold lWei; omega))
      · refine ⟨-5, d, d, s, ?_, ?_, hJ⟩
        · unfold X7_take
          simp only [k_top, Option.bind_some, X7_isBar_s, X7_within_s, ifb_t c1, ifb_t c2, t_stg, f_bars isS_1, f_bar isS_1 hq, X0_pileOf_s isS_1 hq hi, f_siz isS_1 hq hi, hR.pi hq hi, ifb_f c3]
        · unfold X8_take
          simp only [k_mod, Option.bind_some, X8_isBar_s, X8_in_s, ifb_t c1, ifb_t c2, X8_many_s hM hq hi, ifb_f c3]
    · refine ⟨-2, d, d, s, ?_, ?_, hJ⟩
      · unfold X7_take
        simp only [k_top, Option.bind_some, X7_isBar_s, X7_within_s, ifb_t c1, ifb_f c2]
      · unfold X8_take
        simp only [k_mod, Option.bind_some, X8_isBar_s, X8_in_s, ifb_t c1, ifb_f c2]
  · refine ⟨-1, d, d, s, ?_, ?_, hJ⟩
    · unfold X7_take
      simp only [k_top, Option.bind_some, X7_isBar_s, ifb_f c1]
    · unfold X8_take
      simp only [k_mod, Option.bind_some, X8_isBar_s, ifb_f c1]
end TAKE
