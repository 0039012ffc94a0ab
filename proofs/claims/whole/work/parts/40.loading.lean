/-! LOADING, LOADINGS -/
theorem sN_pos {h : Nat → Nat} : ∀ n, sN h n ≠ 0 → ∃ k, k < n ∧ h k ≠ 0
  | 0, e => absurd rfl e
  | n + 1, e => by
    by_cases c : h n = 0
    · have e1 : sN h n + h n ≠ 0 := e
      obtain ⟨k, h1, h2⟩ := sN_pos (h := h) n (by omega)
      exact ⟨k, by omega, h2⟩
    · exact ⟨n, by omega, c⟩
section PLACE
variable (P Q : Nat) (f g : Nat → Nat) (w : Nat)
def gud (u v k : Nat) : Bool := if k < P then (!u.testBit k && decide (wys P Q f g w (u ||| 2 ^ k) v ≠ 0)) else (!v.testBit (k - P) && decide (wys P Q f g w u (v ||| 2 ^ (k - P)) ≠ 0))
def nxt (u v : Nat) : Nat := fnd (gud P Q f g w u v) (P + Q) 0
def pl : Nat → Nat × Nat × Nat
  | 0 => (0, 0, 0)
  | i + 1 => if nxt P Q f g w (pl i).1 (pl i).2.1 < P then ((pl i).1 ||| 2 ^ nxt P Q f g w (pl i).1 (pl i).2.1, (pl i).2.1, nxt P Q f g w (pl i).1 (pl i).2.1) else ((pl i).1, (pl i).2.1 ||| 2 ^ (nxt P Q f g w (pl i).1 (pl i).2.1 - P), nxt P Q f g w (pl i).1 (pl i).2.1)
theorem gud_ex (hP : P ≤ 6) (hQ : Q ≤ 6) {u v : Nat} (hw : wys P Q f g w u v ≠ 0) (hc : 0 < cz u P + cz v Q) : ∃ k, 0 ≤ k ∧ k < 0 + (P + Q) ∧ gud P Q f g w u v k = true := by
  have e := wys_eq P Q f g w hP hQ u v
  by_cases ok : okL P Q f g w u v = true
  · rw [ok, if_pos rfl, if_neg (fun g => by
      rw [g.1, g.2, cz_full, cz_full] at hc
      omega)] at e
    rw [e] at hw
    unfold bhd at hw
    by_cases c : sN (fun k => if u.testBit k then 0 else wys P Q f g w (u ||| 2 ^ k) v) P = 0
    · obtain ⟨k, h1, h2⟩ := sN_pos Q (fun g => hw (by rw [c, g]))
      refine ⟨P + k, by omega, by omega, ?_⟩
      unfold gud
      rw [if_neg (by omega), show P + k - P = k by omega]
      cases hb : v.testBit k with
      | true => rw [hb] at h2; exact absurd rfl h2
      | false => rw [hb] at h2; simpa using h2
    · obtain ⟨k, h1, h2⟩ := sN_pos P c
      refine ⟨k, by omega, by omega, ?_⟩
      unfold gud
      rw [if_pos h1]
      cases hb : u.testBit k with
      | true => rw [hb] at h2; exact absurd rfl h2
      | false => rw [hb] at h2; simpa using h2
  · rw [if_neg ok] at e
    exact absurd e hw
theorem nxt_ok (hP : P ≤ 6) (hQ : Q ≤ 6) {u v : Nat} (hw : wys P Q f g w u v ≠ 0) (hc : 0 < cz u P + cz v Q) : nxt P Q f g w u v < P + Q ∧ gud P Q f g w u v (nxt P Q f g w u v) = true ∧ ∀ j, j < nxt P Q f g w u v → gud P Q f g w u v j = false := by
  obtain ⟨h1, h2, h3, h4⟩ := fnd_ok (p := gud P Q f g w u v) (P + Q) 0 (gud_ex P Q f g w hP hQ hw hc)
  exact ⟨by unfold nxt; omega, h3, fun j hj => h4 j (by omega) hj⟩
theorem pl_ok (hP : P ≤ 6) (hQ : Q ≤ 6) (h0 : wys P Q f g w 0 0 ≠ 0) : ∀ i, i ≤ P + Q → (pl P Q f g w i).1 < 2 ^ P ∧ (pl P Q f g w i).2.1 < 2 ^ Q ∧ wys P Q f g w (pl P Q f g w i).1 (pl P Q f g w i).2.1 ≠ 0 ∧ cz (pl P Q f g w i).1 P + cz (pl P Q f g w i).2.1 Q + i = P + Q
  | 0, _ => by
    refine ⟨z_pos P, z_pos Q, h0, ?_⟩
    have e : ∀ n, cz 0 n = n := fun n => by
      unfold cz
      induction n with
      | zero => rfl
      | succ n ih =>
        show sN _ n + (if (0 : Nat).testBit n then 0 else 1) = n + 1
        rw [ih, Nat.zero_testBit]
        rfl
    show cz 0 P + cz 0 Q + 0 = P + Q
    rw [e, e]
    omega
  | i + 1, hi => by
    obtain ⟨h1, h2, h3, h4⟩ := pl_ok hP hQ h0 i (by omega)
    obtain ⟨n1, n2, n3⟩ := nxt_ok P Q f g w hP hQ h3 (by omega)
    unfold gud at n2
    simp only [pl]
    by_cases c : nxt P Q f g w (pl P Q f g w i).1 (pl P Q f g w i).2.1 < P
    · rw [if_pos c] at n2 ⊢
      simp only [Bool.and_eq_true, Bool.not_eq_true', decide_eq_true_eq] at n2
      have h5 := cz_or n2.1 P
      rw [if_pos c] at h5
      exact ⟨z_lt h1 c, h2, n2.2, by dsimp only; omega⟩
    · rw [if_neg c] at n2 ⊢
      simp only [Bool.and_eq_true, Bool.not_eq_true', decide_eq_true_eq] at n2
      have h5 := cz_or n2.1 Q
      rw [if_pos (by omega)] at h5
      exact ⟨h1, z_lt h2 (by omega), n2.2, by dsimp only; omega⟩
end PLACE
section LOADQ
variable {b : Nat} {d : Da} {q : Nat} {s : Sg} {P Q : Nat} {f g : Nat → Nat} {w : Nat}
theorem wys_0 (hP : P ≤ 6) (hQ : Q ≤ 6) (u v : Nat) : nI (wys P Q f g w u v) = 0 ↔ wys P Q f g w u v = 0 := by
  have := wys_le P Q f g w hP hQ u v
  exact nI_eq (b := 0) (by omega) (by omega)
theorem wys_p (hP : P ≤ 6) (hQ : Q ≤ 6) (u v : Nat) : nI (wys P Q f g w u v) ≤ 0 ↔ wys P Q f g w u v = 0 := by
  have := wys_le P Q f g w hP hQ u v
  have h := nI_leI (a := wys P Q f g w u v) (b := 0) (by omega) (by omega)
  exact h.trans (by omega)
def cod (P k : Nat) : Int32 := if k < P then nI k else nI (10 + (k - P))
theorem X3_leastBehind_s {u v K : Nat} (hc : Lc d P Q) (hT : ∀ u v, u < 2 ^ P → v < 2 ^ Q → Lt d P Q f g w u v) (hu : u < 2 ^ P) (hv : v < 2 ^ Q) (h1 : K < P + Q) (h2 : gud P Q f g w u v K = true) (h3 : ∀ j, j < K → gud P Q f g w u v j = false) : X3_leastBehind (wld b d) (b + 75) (nI u) (nI v) = some (cod P K) := by
  obtain ⟨hP, hQ, q3, q4⟩ := hc
  have pP := z_p6 hP
  have pQ := z_p6 hQ
  unfold X3_leastBehind cod
  rw [k_ldr, Option.bind_some]
  have stA : ∀ i, i < P → X3_leastBehind_b2 (wld b d) (b + 75) (nI u) (nI v) (nI i) = if gud P Q f g w u v i = true then some (.inr (.inl (nI i))) else some (.inl (nI (i + 1))) := fun i hi => by
    have c1 : ¬ P ≤ i := by omega
    unfold gud
    simp (disch := omega) only [X3_leastBehind_b2, f_ldc, q3, Option.bind_some, nI_leI, c1, if_false, z_bit, bI_0, f_ldr, X3_indexOf, z_ors, nI_1, if_pos hi]
    cases hb : u.testBit i with
    | true => simp
    | false =>
      have g1 := z_lt hu hi
      simp only [if_true, c_64, pk_mul, nI_add, Nat.add_zero, Nat.reduceAdd]
      rw [lA_f isA_c.2.2.1 (by omega), hT _ _ g1 hv, Option.bind_some]
      by_cases c : wys P Q f g w (u ||| 2 ^ i) v = 0
      · rw [if_pos ((wys_p hP hQ _ _).mpr c)]; simp [c]
      · rw [if_neg (fun g => c ((wys_p hP hQ _ _).mp g))]; simp [c]
  have stB : ∀ i, i < Q → X3_leastBehind_b45 (wld b d) (b + 75) (nI u) (nI v) (nI i) = if gud P Q f g w u v (P + i) = true then some (.inr (.inl (nI i))) else some (.inl (nI (i + 1))) := fun i hi => by
    have c1 : ¬ Q ≤ i := by omega
    unfold gud
    simp (disch := omega) only [X3_leastBehind_b45, f_ldc, q4, Option.bind_some, nI_leI, c1, if_false, z_bit, bI_0, f_ldr, X3_indexOf, z_ors, nI_1, if_neg (show ¬ P + i < P by omega), show P + i - P = i by omega]
    cases hb : v.testBit i with
    | true => simp
    | false =>
      have g1 := z_lt hv hi
      simp only [if_true, c_64, pk_mul, nI_add, Nat.add_zero, Nat.reduceAdd]
      rw [lA_f isA_c.2.2.1 (by omega), hT _ _ hu g1, Option.bind_some]
      by_cases c : wys P Q f g w u (v ||| 2 ^ i) = 0
      · rw [if_pos ((wys_p hP hQ _ _).mpr c)]; simp [c]
      · rw [if_neg (fun g => c ((wys_p hP hQ _ _).mp g))]; simp [c]
  by_cases c : K < P
  · rw [if_pos c, wl_count (fun i => nI i) K (.inl (nI K)) ?_ ?_ (by omega) ?_]
    · rfl
    · intro i hi
      show X3_leastBehind_b2 (wld b d) (b + 75) (nI u) (nI v) (nI i) = _
      rw [stA i (by omega), h3 i hi, if_neg (by decide)]
    · show X3_leastBehind_b2 (wld b d) (b + 75) (nI u) (nI v) (nI K) = _
      rw [stA K c, h2, if_pos rfl]
    · rfl
  · rw [if_neg c, wl_count (fun i => nI i) P (.inr ()) ?_ ?_ (by omega) ?_]
    · show ((wloop (un1 (X3_leastBehind_b45 (wld b d) (b + 75) (nI u) (nI v))) FU (0 : Int32)).bind (sOf (fun v24 => some ((10 : Int32) + v24)) (fun _ => some (-6 : Int32)))) = _
      rw [wl_count (fun i => nI i) (K - P) (.inl (nI (K - P))) ?_ ?_ (by omega) ?_]
      · show some (nI 10 + nI (K - P)) = _
        rw [nI_add]
      · intro i hi
        show X3_leastBehind_b45 (wld b d) (b + 75) (nI u) (nI v) (nI i) = _
        rw [stB i (by omega), h3 (P + i) (by omega), if_neg (by decide)]
      · show X3_leastBehind_b45 (wld b d) (b + 75) (nI u) (nI v) (nI (K - P)) = _
        rw [stB (K - P) (by omega), show P + (K - P) = K by omega, h2, if_pos rfl]
      · rfl
    · intro i hi
      show X3_leastBehind_b2 (wld b d) (b + 75) (nI u) (nI v) (nI i) = _
      rw [stA i hi, h3 i (by omega), if_neg (by decide)]
    · show X3_leastBehind_b2 (wld b d) (b + 75) (nI u) (nI v) (nI P) = _
      simp (disch := omega) only [X3_leastBehind_b2, f_ldc, q3, Option.bind_some, nI_leI, Nat.le_refl, if_true]
    · rfl
theorem X3_placed_s {x : Nat} (hc : Lc d P Q) (hT : ∀ u v, u < 2 ^ P → v < 2 ^ Q → Lt d P Q f g w u v) (h0 : wys P Q f g w 0 0 ≠ 0) (hx : x < P + Q) : X3_placed (wld b d) (b + 75) (nI x) = some (cod P (pl P Q f g w (x + 1)).2.2) := by
  have hc' := hc
  obtain ⟨hP, hQ, q3, q4⟩ := hc'
  have pP := z_p6 hP
  have pQ := z_p6 hQ
  unfold X3_placed X3_things
  simp (disch := omega) only [k_ldr, Option.bind_some, f_ldc, q3, q4, nI_add, nI_ltI, hx, if_true]
  rw [wl_count (fun i => (nI (pl P Q f g w i).1, nI (pl P Q f g w i).2.1, (if i = 0 then (-6 : Int32) else cod P (pl P Q f g w i).2.2), nI i)) (x + 1) (cod P (pl P Q f g w (x + 1)).2.2) ?_ ?_ (by omega) ?_]
  · rfl
  · intro i hi
    have c1 : ¬ x < i := by omega
    obtain ⟨p1, p2, p3, p4⟩ := pl_ok P Q f g w hP hQ h0 i (by omega)
    obtain ⟨n1, n2, n3⟩ := nxt_ok P Q f g w hP hQ p3 (by omega)
    simp (disch := omega) only [un4, X3_placed_b22, nI_ltI, c1, if_false, X3_leastBehind_s hc hT p1 p2 n1 n2 n3, Option.bind_some, nI_1]
    rw [if_neg (show ¬ i + 1 = 0 by omega)]
    simp only [pl, cod]
    by_cases c : nxt P Q f g w (pl P Q f g w i).1 (pl P Q f g w i).2.1 < P
    · simp only [if_pos c]
      rw [if_pos (show nI (nxt P Q f g w (pl P Q f g w i).1 (pl P Q f g w i).2.1) < (10 : Int32) from nI_lt (b := 10) (by omega) (by omega)), if_neg (nI_pos (by omega)), z_ors (by omega)]
    · simp only [if_neg c]
      rw [if_neg (show ¬ nI (10 + (nxt P Q f g w (pl P Q f g w i).1 (pl P Q f g w i).2.1 - P)) < (10 : Int32) from nI_nlt (b := 10) (by omega) (by omega)), c_10, pk_sub (by omega), show 10 + (nxt P Q f g w (pl P Q f g w i).1 (pl P Q f g w i).2.1 - P) - 10 = nxt P Q f g w (pl P Q f g w i).1 (pl P Q f g w i).2.1 - P by omega, z_ors (by omega)]
  · simp (disch := omega) only [un4, X3_placed_b22, nI_ltI, Nat.lt_succ_self, if_true]
    rw [if_neg (show ¬ x + 1 = 0 by omega)]
  · rfl
theorem X8_search_s {u v K : Nat} {x1 x2 x5 : Int32} (hP : P ≤ 6) (hQ : Q ≤ 6) (hT : ∀ u v, u < 2 ^ P → v < 2 ^ Q → Mt d P Q f g w u v) (hu : u < 2 ^ P) (hv : v < 2 ^ Q) (h1 : K < P + Q) (h2 : gud P Q f g w u v K = true) (h3 : ∀ j, j < K → gud P Q f g w u v j = false) : wloop (un1 (X8_loading_b69 (wld b d) (b + 243) x1 x2 (nI (2 ^ P * v + u)) x5)) FU 0 = some (nI K) := by
  have hX := x_lt hu hv
  have pT := z_p12 (k := P + Q) (by omega)
  have st : ∀ i, i < P + Q → X8_loading_b69 (wld b d) (b + 243) x1 x2 (nI (2 ^ P * v + u)) x5 (nI i) = if gud P Q f g w u v i = true then some (.inr (nI i)) else some (.inl (nI (i + 1))) := fun i hi => by
    unfold gud
    simp (disch := omega) only [X8_loading_b69, X8_has_s, Option.bind_some, bI_0, m_wy, x_tb hu, z_ors, nI_1]
    by_cases c : i < P
    · simp only [if_pos c]
      cases hb : u.testBit i with
      | true => simp
      | false =>
        have g1 := z_lt hu c
        have g2 := x_lt g1 hv
        rw [if_pos rfl, x_or1 hu c, lA_f isA_m.2.2.2.1 (by omega), hT _ _ g1 hv, Option.bind_some]
        by_cases c : wys P Q f g w (u ||| 2 ^ i) v = 0
        · rw [if_pos ((wys_0 hP hQ _ _).mpr c)]; simp [c]
        · rw [if_neg (fun g => c ((wys_0 hP hQ _ _).mp g))]; simp [c]
    · simp only [if_neg c]
      obtain ⟨k, rfl⟩ : ∃ k, i = P + k := ⟨i - P, by omega⟩
      rw [show P + k - P = k by omega]
      cases hb : v.testBit k with
      | true => simp
      | false =>
        have g1 := z_lt hv (show k < Q by omega)
        have g2 := x_lt hu g1
        rw [if_pos rfl, x_or2 hu, lA_f isA_m.2.2.2.1 (by omega), hT _ _ hu g1, Option.bind_some]
        by_cases c : wys P Q f g w u (v ||| 2 ^ k) = 0
        · rw [if_pos ((wys_0 hP hQ _ _).mpr c)]; simp [c]
        · rw [if_neg (fun g => c ((wys_0 hP hQ _ _).mp g))]; simp [c]
  rw [wl_count (fun i => nI i) K (nI K) ?_ ?_ (by omega) ?_]
  · intro i hi
    show X8_loading_b69 (wld b d) (b + 243) x1 x2 (nI (2 ^ P * v + u)) x5 (nI i) = _
    rw [st i (by omega), h3 i hi, if_neg (by decide)]
  · show X8_loading_b69 (wld b d) (b + 243) x1 x2 (nI (2 ^ P * v + u)) x5 (nI K) = _
    rw [st K h1, h2, if_pos rfl]
  · rfl
theorem X8_places_s {x : Nat} {x1 : Int32} (hP : P ≤ 6) (hQ : Q ≤ 6) (hT : ∀ u v, u < 2 ^ P → v < 2 ^ Q → Mt d P Q f g w u v) (h0 : wys P Q f g w 0 0 ≠ 0) (hx : x < P + Q) : wloop (un3 (X8_loading_b60 (wld b d) (b + 243) x1 (nI x))) FU (0, 0, 0) = some (nI (pl P Q f g w (x + 1)).2.2) := by
  rw [wl_count (fun i => (nI (2 ^ P * (pl P Q f g w i).2.1 + (pl P Q f g w i).1), nI (pl P Q f g w i).2.2, nI i)) (x + 1) (nI (pl P Q f g w (x + 1)).2.2) ?_ ?_ (by omega) ?_]
  · intro i hi
    have c1 : ¬ x < i := by omega
    obtain ⟨p1, p2, p3, p4⟩ := pl_ok P Q f g w hP hQ h0 i (by omega)
    obtain ⟨n1, n2, n3⟩ := nxt_ok P Q f g w hP hQ p3 (by omega)
    simp (disch := omega) only [un3, X8_loading_b60, nI_ltI, c1, if_false, X8_search_s hP hQ hT p1 p2 n1 n2 n3, Option.bind_some, nI_1, z_ors]
    simp only [pl]
    by_cases c : nxt P Q f g w (pl P Q f g w i).1 (pl P Q f g w i).2.1 < P
    · simp only [if_pos c]
      rw [x_or1 p1 c]
    · simp only [if_neg c]
      rw [← x_or2 p1, show P + (nxt P Q f g w (pl P Q f g w i).1 (pl P Q f g w i).2.1 - P) = nxt P Q f g w (pl P Q f g w i).1 (pl P Q f g w i).2.1 by omega]
  · simp (disch := omega) only [un3, X8_loading_b60, nI_ltI, Nat.lt_succ_self, if_true]
  · rfl
theorem q_loadings (hJ : Iv d s) (x1 : Int32) : ∃ r d1 d2, X7_loadings (wld b d) b x1 = some (r, wld b d1) ∧ X8_loadings (wld b d1) (b + 243) x1 = some (r, wld b d2) ∧ Iv d2 s := by
  obtain ⟨hV, hR, hM, -⟩ := id hJ
  unfold X7_loadings X8_loadings
  simp only [k_top, k_mod, Option.bind_some, X7_isBar_s, X8_isBar_s]
  by_cases c1 : 0 ≤ x1 ∧ x1 ≤ 9
  · obtain ⟨q, hq, rfl⟩ := in_nI (n := 9) (by omega) c1
    have hq : q < 10 := by omega
    obtain ⟨D, e1, e2, e3, e4⟩ := X3_reckon_s (b := b) hR hV hq rfl rfl hV.sw
    have hc : cS d D := fun k hk => e2 k (by omega)
    obtain ⟨D', f1, f2, f3, f4⟩ := X8_layWays_s (b := b) (hM.cs hc) hV hq rfl rfl rfl
    refine ⟨nI (wys (s (30 + 10 * 0 + q)) (s (30 + 10 * 1 + q)) (pwt s q 0) (pwt s q 1) (s 170) 0 0), D, D', ?_, ?_, hJ.q hc (fun k hk => f2 k (by omega) (by omega))⟩
    · rw [ifb_t c1]
      simp only [t_ldr, t_stg, Option.bind_some, f_bars isS_1, f_bar isS_1 hq, f_sway isS_1, hR.sw, e1, X3_allOrders, k_ldr]
      rw [f_ldr (by omega), Option.bind_some, c_0, lA_f isA_c.2.2.1 (by omega), Option.bind_some, Option.bind_some]
      have := e4 0 0 (z_pos _) (z_pos _)
      unfold Lt at this
      rw [Nat.zero_mul, Nat.add_zero] at this
      rw [this]
    · rw [ifb_t c1, f1, Option.bind_some, m_wy, Option.bind_some, c_0, lA_f isA_m.2.2.2.1 (by omega), Option.bind_some]
      have := f4 0 0 (z_pos _) (z_pos _)
      unfold Mt at this
      rw [Nat.mul_zero, Nat.add_zero] at this
      rw [this]
  · exact ⟨-1, d, d, by rw [ifb_f c1], by rw [ifb_f c1], hJ⟩
theorem q_loading (hJ : Iv d s) (x1 x2 : Int32) : ∃ r d1 d2, X7_loading (wld b d) b x1 x2 = some (r, wld b d1) ∧ X8_loading (wld b d1) (b + 243) x1 x2 = some (r, wld b d2) ∧ Iv d2 s := by
  obtain ⟨hV, hR, hM, -⟩ := id hJ
  unfold X7_loading X8_loading
  simp only [k_top, k_mod, Option.bind_some, X7_isBar_s, X8_isBar_s]
  by_cases c1 : 0 ≤ x1 ∧ x1 ≤ 9
  · obtain ⟨q, hq, rfl⟩ := in_nI (n := 9) (by omega) c1
    have hq : q < 10 := by omega
    by_cases c2 : (-1 : Int32) ≤ x2
    · obtain ⟨D, e1, e2, e3, e4⟩ := X3_reckon_s (b := b) hR hV hq rfl rfl hV.sw
      have hc : cS d D := fun k hk => e2 k (by omega)
      obtain ⟨D', f1, f2, f3, f4⟩ := X8_layWays_s (b := b) (hM.cs hc) hV hq rfl rfl rfl
      have hj : Iv D' s := hJ.q hc (fun k hk => f2 k (by omega) (by omega))
      have hMD : M8 D' s := hj.2.2.1
      obtain ⟨hP, hQ, q3, q4⟩ := id e3
      have t1 := e4 0 0 (z_pos _) (z_pos _)
      unfold Lt at t1
      rw [Nat.zero_mul, Nat.add_zero] at t1
      have t2 := f4 0 0 (z_pos _) (z_pos _)
      unfold Mt at t2
      rw [Nat.mul_zero, Nat.add_zero] at t2
      rw [ifb_t c1, if_pos c2]
      simp only [t_ldr, t_stg, Option.bind_some, f_bars isS_1, f_bar isS_1 hq, f_sway isS_1, hR.sw, e1, X3_allOrders, k_ldr, f_ldr (show 2 < 3 by omega)]
      rw [c_0, lA_f isA_c.2.2.1 (by omega), Option.bind_some, Option.bind_some, t1]
      have m : ∀ r, (if nI (wys (s (30 + 10 * 0 + q)) (s (30 + 10 * 1 + q)) (pwt s q 0) (pwt s q 1) (s 170) 0 0) = 0 then some ((-6 : Int32), wld b D') else if x2 < nI (s (30 + 10 * 0 + q) + s (30 + 10 * 1 + q)) then (if x2 = (-1 : Int32) then some (nI (s (30 + 10 * 0 + q) + s (30 + 10 * 1 + q)), wld b D') else ((wloop (un3 (X8_loading_b60 (wld b D') (b + 243) (nI q) x2)) FU ((0 : Int32), (0 : Int32), (0 : Int32))).bind fun v22 => if nI (s (30 + 10 * 0 + q)) ≤ v22 then (some ((((10 : Int32) + v22) - nI (s (30 + 10 * 0 + q))), wld b D')) else (some (v22, wld b D')))) else (some ((-6 : Int32), wld b D'))) = r → (if bI (decide (0 ≤ nI q ∧ nI q ≤ 9)) = 0 then (some ((-1 : Int32), wld b D)) else (if (-1 : Int32) ≤ x2 then ((X8_layWays (wld b D) (b + 243) (nI q)).bind fun M4 => (gR M4 (b + 243) 8 3).bind fun w5 => (lA M4 0 w5 (0 : Int32)).bind fun v7 => if v7 = 0 then (some ((-6 : Int32), M4)) else ((gI M4 (b + 243) 8 4).bind fun v9 => if x2 < v9 then (if x2 = (-1 : Int32) then ((gI M4 (b + 243) 8 4).bind fun v29 => some (v29, M4)) else ((wloop (un3 (X8_loading_b60 M4 (b + 243) (nI q) x2)) FU ((0 : Int32), (0 : Int32), (0 : Int32))).bind fun v22 => (X8_many M4 (b + 243) (nI q) (0 : Int32)).bind fun v24 => if v24 ≤ v22 then ((X8_many M4 (b + 243) (nI q) (0 : Int32)).bind fun v26 => some ((((10 : Int32) + v22) - v26), M4)) else (some (v22, M4)))) else (some ((-6 : Int32), M4)))) else (some ((-2 : Int32), wld b D)))) = r := by
        intro r hr
        rw [ifb_t c1, if_pos c2, f1, Option.bind_some, m_wy, Option.bind_some, c_0, lA_f isA_m.2.2.2.1 (by omega), Option.bind_some, t2, ← hr]
        simp (disch := omega) only [f_mdc, f3, Option.bind_some, X8_many_s hMD hq]
        rfl
      by_cases c3 : wys (s (30 + 10 * 0 + q)) (s (30 + 10 * 1 + q)) (pwt s q 0) (pwt s q 1) (s 170) 0 0 = 0
      · refine ⟨-6, D, D', ?_, m _ ?_, hj⟩
        · rw [if_pos (by rw [c3])]
        · rw [if_pos (by rw [c3]; rfl)]
      · have c3' : ¬ nI (wys (s (30 + 10 * 0 + q)) (s (30 + 10 * 1 + q)) (pwt s q 0) (pwt s q 1) (s 170) 0 0) = nI 0 := fun g => c3 ((wys_0 hP hQ _ _).mp g)
        have c3'' : ¬ nI (wys (s (30 + 10 * 0 + q)) (s (30 + 10 * 1 + q)) (pwt s q 0) (pwt s q 1) (s 170) 0 0) = 0 := c3'
        rw [if_neg c3']
        by_cases c4 : x2 = -1
        · refine ⟨nI (s (30 + 10 * 0 + q) + s (30 + 10 * 1 + q)), D, D', ?_, m _ ?_, hj⟩
          · rw [if_pos c4]
            simp (disch := omega) only [X3_things, k_ldr, Option.bind_some, f_ldc, q3, q4, nI_add]
          · have c5 : x2 < nI (s (30 + 10 * 0 + q) + s (30 + 10 * 1 + q)) := by
              rw [c4]
              exact Int32.lt_of_lt_of_le (show (-1 : Int32) < 0 by decide) (nI_pos' (by omega))
            rw [if_neg c3'', if_pos c5, if_pos c4]
        · have c6 : 0 ≤ x2 := by
            have h1 := Int32.le_iff_toInt_le.mp c2
            have h2 : ¬ x2.toInt = -1 := fun g => c4 (Int32.toInt_inj.mp (g.trans (by decide)))
            apply Int32.le_iff_toInt_le.mpr
            have e1 : (-1 : Int32).toInt = -1 := by decide
            have e2 : (0 : Int32).toInt = 0 := by decide
            omega
          rw [if_neg c4]
          by_cases c5 : x2 < nI (s (30 + 10 * 0 + q) + s (30 + 10 * 1 + q))
          · obtain ⟨x, hx, rfl⟩ : ∃ x, x < s (30 + 10 * 0 + q) + s (30 + 10 * 1 + q) ∧ x2 = nI x := by
              obtain ⟨x, _, rfl⟩ := in_nI (n := s (30 + 10 * 0 + q) + s (30 + 10 * 1 + q)) (by omega) ⟨c6, Int32.le_of_lt c5⟩
              exact ⟨x, (nI_ltI (by omega) (by omega)).mp c5, rfl⟩
            refine ⟨cod (s (30 + 10 * 0 + q)) (pl (s (30 + 10 * 0 + q)) (s (30 + 10 * 1 + q)) (pwt s q 0) (pwt s q 1) (s 170) (x + 1)).2.2, D, D', ?_, m _ ?_, hj⟩
            · rw [X3_placed_s e3 e4 c3 hx]
              rfl
            · rw [if_neg c3'', if_pos c5, if_neg c4, X8_places_s hP hQ f4 c3 hx, Option.bind_some]
              obtain ⟨p1, p2, p3, p4⟩ := pl_ok _ _ (pwt s q 0) (pwt s q 1) (s 170) hP hQ c3 x (by omega)
              obtain ⟨n1, n2, n3⟩ := nxt_ok _ _ (pwt s q 0) (pwt s q 1) (s 170) hP hQ p3 (by omega)
              have hk : (pl (s (30 + 10 * 0 + q)) (s (30 + 10 * 1 + q)) (pwt s q 0) (pwt s q 1) (s 170) (x + 1)).2.2 < 12 := by
                simp only [pl]
                split
                · dsimp only; omega
                · dsimp only; omega
              unfold cod
              by_cases c7 : (pl (s (30 + 10 * 0 + q)) (s (30 + 10 * 1 + q)) (pwt s q 0) (pwt s q 1) (s 170) (x + 1)).2.2 < s (30 + 10 * 0 + q)
              · rw [if_neg (fun g => by have := (nI_leI (by omega) (by omega)).mp g; omega), if_pos c7]
              · rw [if_pos (nI_le (by omega) (by omega)), if_neg c7, c_10, nI_add, pk_sub (by omega)]
                congr 3
                omega
          · refine ⟨-6, D, D', ?_, m _ ?_, hj⟩
            · unfold X3_placed X3_things
              simp (disch := omega) only [k_ldr, Option.bind_some, f_ldc, q3, q4, nI_add]
              rw [if_neg c5]
              rfl
            · rw [if_neg c3'', if_neg c5]
    · exact ⟨-2, d, d, by rw [ifb_t c1, if_neg c2], by rw [ifb_t c1, if_neg c2], hJ⟩
  · exact ⟨-1, d, d, by rw [ifb_f c1], by rw [ifb_f c1], hJ⟩
end LOADQ
