/-! THE BEGINNING: a world that grows -/
def Gr (b n : Nat) (c : Nat → Ce) : Wo := (b + n, fun a => if b ≤ a ∧ a < b + n then some (c (a - b)) else none)
section GROW
variable {b n k : Nat} {c : Nat → Ce}
theorem Gr_at (h : k < n) : (Gr b n c).2 (b + k) = some (c k) := by
  have e : b + k - b = k := by omega
  simp only [Gr, e]
  rw [if_pos (by omega)]
theorem Gr_new (x : Ce) : wn (Gr b n c) x = Gr b (n + 1) (va_up c n x) := by
  unfold wn Gr
  refine Prod.ext rfl (funext fun a => ?_)
  by_cases e : a = b + n
  · subst e
    have e2 : b + n - b = n := by omega
    simp only [va_up, if_true, e2]
    rw [if_pos (by omega)]
  · simp only [va_up, if_neg e]
    by_cases e3 : b ≤ a ∧ a < b + n
    · rw [if_pos e3, if_pos (by omega), if_neg (by omega)]
    · rw [if_neg e3, if_neg (by omega)]
theorem Gr_upd (h : k < n) (x : Ce) : wu (Gr b n c) (b + k) x = Gr b n (va_up c k x) := by
  unfold wu Gr
  refine Prod.ext rfl (funext fun a => ?_)
  by_cases e : a = b + k
  · subst e
    have e2 : b + k - b = k := by omega
    simp only [va_up, if_true, e2]
    rw [if_pos (by omega)]
  · simp only [va_up, if_neg e]
    by_cases e3 : b ≤ a ∧ a < b + n
    · rw [if_pos e3, if_pos e3, if_neg (by omega)]
    · rw [if_neg e3, if_neg e3]
theorem r_nwO (ci : Nat) (fs : List Value) : nwO (Gr b n c) ci fs = some (b + n, Gr b (n + 1) (va_up c n (oB ci fs))) := by unfold nwO; rw [Gr_new]; rfl
theorem r_nwA (kd N : Nat) : nwA (Gr b n c) kd N = some (b + n, Gr b (n + 1) (va_up c n (.inl (kd, N, fun _ => 0)))) := by unfold nwA; rw [Gr_new]; rfl
theorem r_nwR (kd N : Nat) : nwR (Gr b n c) kd N = some (b + n, Gr b (n + 1) (va_up c n (.inr (.inl (kd, N, fun _ => none))))) := by unfold nwR; rw [Gr_new]; rfl
theorem r_ck {ci : Nat} {fs : List Value} (h : k < n) (e : c k = oB ci fs) : ckO (Gr b n c) (b + k) ci = some () := by
  unfold ckO
  rw [Gr_at h, e]
  exact if_pos rfl
theorem r_pV {ci j : Nat} {fs : List Value} {v : Value} (h : k < n) (e : c k = oB ci fs) (hj : j < fs.length) : pV (Gr b n c) (b + k) ci j v = some (Gr b n (va_up c k (oB ci (fs.set j v)))) := by
  unfold pV
  rw [Gr_at h, e]
  show (if ci = ci ∧ j < fs.length then some (wu (Gr b n c) (b + k) (oB ci (fs.set j v))) else none) = _
  rw [if_pos ⟨rfl, hj⟩, Gr_upd h]
theorem r_gR {ci j r : Nat} {fs : List Value} (h : k < n) (e : c k = oB ci fs) (hj : fs[j]? = some (.ref r)) : gR (Gr b n c) (b + k) ci j = some r := by
  unfold gR gV
  rw [Gr_at h, e]
  show (match (if ci = ci then fs[j]? else none) with | some (.ref x) => some x | _ => none) = _
  rw [if_pos rfl, hj]
theorem r_sA {N j : Nat} {f : Nat → Int32} {v : Int32} (h : k < n) (e : c k = .inl (0, N, f)) (hj : j < N) (hN : N < 5000) : sA (Gr b n c) (b + k) (nI j) v = some (Gr b n (va_up c k (.inl (0, N, va_up f j v)))) := by
  obtain ⟨c1, c2⟩ := cl_nI hj hN
  unfold sA
  rw [Gr_at h, e]
  show (if 0 = 0 ∧ 0 ≤ nI j ∧ (nI j).toNatClampNeg < N then some (wu (Gr b n c) (b + k) (.inl (0, N, va_up f (nI j).toNatClampNeg v))) else none) = _
  rw [c2, if_pos ⟨rfl, c1, hj⟩, Gr_upd h]
theorem r_sR {kd ci N j k2 : Nat} {f : Nat → Option Nat} {fs : List Value} (h : k < n) (e : c k = .inr (.inl (kd, N, f))) (h2 : k2 < n) (e2 : c k2 = oB ci fs) (hj : j < N) (hN : N < 5000) : sR (Gr b n c) kd ci (b + k) (nI j) (b + k2) = some (Gr b n (va_up c k (.inr (.inl (kd, N, va_up f j (some (b + k2))))))) := by
  obtain ⟨c1, c2⟩ := cl_nI hj hN
  unfold sR
  rw [Gr_at h, e, Gr_at h2, e2]
  show (if ci = ci ∧ kd = kd ∧ 0 ≤ nI j ∧ (nI j).toNatClampNeg < N then some (wu (Gr b n c) (b + k) (.inr (.inl (kd, N, va_up f (nI j).toNatClampNeg (some (b + k2)))))) else none) = _
  rw [c2, if_pos ⟨rfl, rfl, c1, hj⟩, Gr_upd h]
theorem Gr_cg {c' : Nat → Ce} (h : ∀ k, k < n → c k = c' k) : Gr b n c = Gr b n c' := by
  unfold Gr
  refine Prod.ext rfl (funext fun a => ?_)
  dsimp only
  by_cases e3 : b ≤ a ∧ a < b + n
  · rw [if_pos e3, if_pos e3, h _ (by omega)]
  · rw [if_neg e3, if_neg e3]
theorem vs (c : Nat → Ce) (k : Nat) (x : Ce) : va_up c k x k = x := va_up_self c k x
theorem vn (c : Nat → Ce) {k j : Nat} (x : Ce) (h : j ≠ k) : va_up c k x j = c j := va_up_ne c x h
/-- what a stage begins with -/
def d9 (r j : Nat) : Int32 := if r = 0 then (if j = 3 then 20 else 0) else if 63 ≤ r then (if j = 3 then 1 else 0) else if (r - 3) % 6 = 1 ∧ j = 0 then 60 else 0
/-- a stage with q bars and m moves made -/
def SC (b : Nat) (c0 : Nat → Ce) (s q m : Nat) : Nat → Ce := fun k =>
  if k < s then c0 k
  else if k = s + 1 then .inr (.inl (2, 10, fun i => if i < q then some (b + (s + 3 + 6 * i)) else none))
  else if k = s + 2 then .inr (.inl (3, 10, fun i => if i < m then some (b + (s + 63 + i)) else none))
  else stc b s (k - s) (d9 (k - s))
theorem X5_init_r {p : Nat} (hp : p < n) (e : c p = oB 5 [.null, .int 0]) : X5_init (Gr b n c) (b + p) = some (Gr b (n + 1) (va_up (va_up c n (.inl (0, 6, fun _ => 0))) p (oB 5 [.ref (b + n), .int 0]))) := by
  unfold X5_init
  rw [r_ck hp e, Option.bind_some, r_nwA, Option.bind_some]
  show (pV (Gr b (n + 1) (va_up c n (.inl (0, 6, fun _ => 0)))) (b + p) 5 0 (.ref (b + n))).bind (fun M4 => (pV M4 (b + p) 5 1 (.int (0 : Int32))).bind fun M6 => some M6) = _
  rw [r_pV (by omega) ((vn _ _ (by omega)).trans e) (Nat.le_of_ble_eq_true rfl), Option.bind_some, r_pV (by omega) (vs _ _ _) (Nat.le_of_ble_eq_true rfl), Option.bind_some]
  congr 1
  refine Gr_cg (fun k hk => ?_)
  by_cases g : k = p
  · rw [g, vs, vs]; rfl
  · rw [vn _ _ g, vn _ _ g, vn _ _ g]
def Q0 (b n p : Nat) (c c' : Nat → Ce) : Prop := (∀ k, k < n → k ≠ p → c' k = c k) ∧ c' p = oB 0 [.ref (b + n), .ref (b + (n + 1)), .ref (b + (n + 3))] ∧ c' n = .inl (0, 3, va_up (va_up (va_up (fun _ => 0) 0 60) 1 0) 2 0) ∧ c' (n + 1) = oB 5 [.ref (b + (n + 2)), .int 0] ∧ c' (n + 2) = .inl (0, 6, fun _ => 0) ∧ c' (n + 3) = oB 5 [.ref (b + (n + 4)), .int 0] ∧ c' (n + 4) = .inl (0, 6, fun _ => 0)
theorem X0_init_r {p : Nat} (hp : p < n) (e : c p = oB 0 [.null, .null, .null]) : ∃ c', X0_init (Gr b n c) (b + p) = some (Gr b (n + 5) c') ∧ Q0 b n p c c' := by
  have H2 : ∀ c2 : Nat → Ce, c2 p = oB 0 [.ref (b + n), .ref (b + (n + 1)), .null] → c2 n = .inl (0, 3, va_up (va_up (va_up (fun _ => 0) 0 60) 1 0) 2 0) → c2 (n + 1) = oB 5 [.ref (b + (n + 2)), .int 0] → c2 (n + 2) = .inl (0, 6, fun _ => 0) → c2 (n + 3) = oB 5 [.null, .int 0] → (∀ k, k < n → k ≠ p → c2 k = c k) → ∃ c', ((X5_init (Gr b (n + 3 + 1) c2) (b + (n + 3))).bind fun M23 => (pV M23 (b + p) 0 2 (.ref (b + (n + 3)))).bind fun M24 => some M24) = some (Gr b (n + 5) c') ∧ Q0 b n p c c' := by
    intro c2 b1 b2 b3 b4 b5 b6
    rw [X5_init_r (by omega) b5, Option.bind_some, r_pV (k := p) (by omega) ((vn _ _ (by omega)).trans ((vn _ _ (by omega)).trans b1)) (Nat.le_of_ble_eq_true rfl), Option.bind_some]
    refine ⟨_, rfl, fun k k1 k2 => ?_, ?_, ?_, ?_, ?_, ?_, ?_⟩
    · rw [vn _ _ k2, vn _ _ (by omega), vn _ _ (by omega)]; exact b6 k k1 k2
    · rw [vs]; rfl
    · rw [vn _ _ (by omega), vn _ _ (by omega), vn _ _ (by omega)]; exact b2
    · rw [vn _ _ (by omega), vn _ _ (by omega), vn _ _ (by omega)]; exact b3
    · rw [vn _ _ (by omega), vn _ _ (by omega), vn _ _ (by omega)]; exact b4
    · rw [vn _ _ (by omega), vs]
    · rw [vn _ _ (by omega), vn _ _ (by omega), vs]
  have H1 : ∀ c1 : Nat → Ce, c1 p = oB 0 [.ref (b + n), .null, .null] → c1 n = .inl (0, 3, va_up (va_up (va_up (fun _ => 0) 0 60) 1 0) 2 0) → c1 (n + 1) = oB 5 [.null, .int 0] → (∀ k, k < n → k ≠ p → c1 k = c k) → ∃ c', ((X5_init (Gr b (n + 1 + 1) c1) (b + (n + 1))).bind fun M16 => (pV M16 (b + p) 0 1 (.ref (b + (n + 1)))).bind fun M17 => (nwO M17 5 [.null, .int 0]).bind (un2 fun w19 M20 => (X5_init M20 w19).bind fun M23 => (pV M23 (b + p) 0 2 (.ref w19)).bind fun M24 => some M24)) = some (Gr b (n + 5) c') ∧ Q0 b n p c c' := by
    intro c1 a1 a2 a3 a4
    rw [X5_init_r (by omega) a3, Option.bind_some, r_pV (k := p) (by omega) ((vn _ _ (by omega)).trans ((vn _ _ (by omega)).trans a1)) (Nat.le_of_ble_eq_true rfl), Option.bind_some, r_nwO, Option.bind_some]
    refine H2 _ ?_ ?_ ?_ ?_ (vs _ _ _) (fun k k1 k2 => ?_)
    · rw [vn _ _ (by omega), vs]; rfl
    · rw [vn _ _ (by omega), vn _ _ (by omega), vn _ _ (by omega), vn _ _ (by omega)]; exact a2
    · rw [vn _ _ (by omega), vn _ _ (by omega), vs]
    · rw [vn _ _ (by omega), vn _ _ (by omega), vn _ _ (by omega), vs]
    · rw [vn _ _ (by omega), vn _ _ k2, vn _ _ (by omega), vn _ _ (by omega)]; exact a4 k k1 k2
  unfold X0_init
  rw [r_ck hp e, Option.bind_some, r_nwA, Option.bind_some]
  show ∃ c', ((sA (Gr b (n + 1) (va_up c n (.inl (0, 3, fun _ => 0)))) (b + n) (nI 0) (60 : Int32)).bind fun M4 => (sA M4 (b + n) (nI 1) (0 : Int32)).bind fun M6 => (sA M6 (b + n) (nI 2) (0 : Int32)).bind fun M8 => (pV M8 (b + p) 0 0 (.ref (b + n))).bind fun M10 => (nwO M10 5 [.null, .int 0]).bind (un2 fun w12 M13 => (X5_init M13 w12).bind fun M16 => (pV M16 (b + p) 0 1 (.ref w12)).bind fun M17 => (nwO M17 5 [.null, .int 0]).bind (un2 fun w19 M20 => (X5_init M20 w19).bind fun M23 => (pV M23 (b + p) 0 2 (.ref w19)).bind fun M24 => some M24))) = some (Gr b (n + 5) c') ∧ Q0 b n p c c'
  rw [r_sA (j := 0) (by omega) (vs _ _ _) (by omega) (by omega), Option.bind_some, r_sA (j := 1) (by omega) (vs _ _ _) (by omega) (by omega), Option.bind_some, r_sA (j := 2) (by omega) (vs _ _ _) (by omega) (by omega), Option.bind_some]
  have e1 : ∀ x y z w : Ce, va_up (va_up (va_up (va_up c n x) n y) n z) n w p = oB 0 [.null, .null, .null] := fun x y z w => by rw [vn _ _ (by omega), vn _ _ (by omega), vn _ _ (by omega), vn _ _ (by omega)]; exact e
  rw [r_pV (by omega) (e1 _ _ _ _) (Nat.le_of_ble_eq_true rfl), Option.bind_some, r_nwO, Option.bind_some]
  refine H1 _ ?_ ?_ (vs _ _ _) (fun k k1 k2 => ?_)
  · rw [vn _ _ (by omega), vs]; rfl
  · rw [vn _ _ (by omega), vn _ _ (by omega), vs]
  · rw [vn _ _ (by omega), vn _ _ k2, vn _ _ (by omega), vn _ _ (by omega), vn _ _ (by omega), vn _ _ (by omega)]
theorem X4_init_r {p : Nat} (hp : p < n) (e : c p = oB 4 [.int 0, .int 0, .int 0, .int 0]) : X4_init (Gr b n c) (b + p) = some (Gr b n (va_up c p (oB 4 [.int 0, .int 0, .int 0, .int 1]))) := by
  unfold X4_init
  rw [r_ck hp e, Option.bind_some, r_pV hp e (Nat.le_of_ble_eq_true rfl), Option.bind_some, r_pV hp (vs _ _ _) (Nat.le_of_ble_eq_true rfl), Option.bind_some, r_pV hp (vs _ _ _) (Nat.le_of_ble_eq_true rfl), Option.bind_some, r_pV hp (vs _ _ _) (Nat.le_of_ble_eq_true rfl), Option.bind_some]
  congr 1
  refine Gr_cg (fun k hk => ?_)
  by_cases g : k = p
  · rw [g, vs, vs]; rfl
  · rw [vn _ _ g, vn _ _ g, vn _ _ g, vn _ _ g, vn _ _ g]
section STAGE0
variable {s q m : Nat} {c0 : Nat → Ce}
theorem SC_0 : SC b c0 s q m s = oB 6 [.ref (b + (s + 1)), .ref (b + (s + 2)), .int 0, .int 20] := by
  unfold SC
  rw [if_neg (by omega), if_neg (by omega), if_neg (by omega), Nat.sub_self]
  rfl
theorem SC_1 : SC b c0 s q m (s + 1) = .inr (.inl (2, 10, fun i => if i < q then some (b + (s + 3 + 6 * i)) else none)) := by
  unfold SC
  rw [if_neg (by omega), if_pos rfl]
theorem SC_2 : SC b c0 s q m (s + 2) = .inr (.inl (3, 10, fun i => if i < m then some (b + (s + 63 + i)) else none)) := by
  unfold SC
  rw [if_neg (by omega), if_neg (by omega), if_pos rfl]
theorem SC_r {r : Nat} (h : 3 ≤ r) : SC b c0 s q m (s + r) = stc b s r (d9 r) := by
  unfold SC
  rw [if_neg (by omega), if_neg (by omega), if_neg (by omega), show s + r - s = r by omega]
theorem SC_q {q' m' k : Nat} (h1 : k ≠ s + 1) (h2 : k ≠ s + 2) : SC b c0 s q m k = SC b c0 s q' m' k := by
  unfold SC
  rw [if_neg h1, if_neg h1, if_neg h2, if_neg h2]
theorem stc_b {f : Nat → Int32} {j : Nat} (hq : q < 10) (hj : j < 6) : stc b s (3 + 6 * q + j) f = if j = 0 then oB 0 [.ref (b + (s + (3 + 6 * q + j) + 1)), .ref (b + (s + (3 + 6 * q + j) + 2)), .ref (b + (s + (3 + 6 * q + j) + 4))] else if j = 1 then .inl (0, 3, f) else if j = 2 ∨ j = 4 then oB 5 [.ref (b + (s + (3 + 6 * q + j) + 1)), .int (f 1)] else .inl (0, 6, f) := by
  unfold stc
  rw [if_neg (by omega), if_neg (by omega), if_neg (by omega), if_pos (by omega), show (3 + 6 * q + j - 3) % 6 = j by omega]
theorem d9_b {j : Nat} (hq : q < 10) (hj : j < 6) (i : Nat) : d9 (3 + 6 * q + j) i = if j = 1 ∧ i = 0 then 60 else 0 := by
  unfold d9
  rw [if_neg (by omega), if_neg (by omega), show (3 + 6 * q + j - 3) % 6 = j by omega]
theorem bar_step (x : Int32) (hx : x = nI q) (hq : q < 10) (K : Wo → Option Wo) : ((gR (Gr b (s + 3 + 6 * q) (SC b c0 s q 0)) (b + s) 6 0).bind fun w15 => (nwO (Gr b (s + 3 + 6 * q) (SC b c0 s q 0)) 0 [.null, .null, .null]).bind (un2 fun w17 M18 => (X0_init M18 w17).bind fun M21 => (sR M21 2 0 w15 x w17).bind fun M22 => K M22)) = K (Gr b (s + 3 + 6 * (q + 1)) (SC b c0 s (q + 1) 0)) := by
  rw [r_gR (by omega) SC_0 rfl, Option.bind_some, r_nwO, Option.bind_some, hx]
  obtain ⟨c', e1, e2, e3, e4, e5, e6, e7, e8⟩ := X0_init_r (b := b) (n := s + 3 + 6 * q + 1) (c := va_up (SC b c0 s q 0) (s + 3 + 6 * q) (oB 0 [.null, .null, .null])) (p := s + 3 + 6 * q) (by omega) (vs _ _ _)
  show ((X0_init (Gr b (s + 3 + 6 * q + 1) (va_up (SC b c0 s q 0) (s + 3 + 6 * q) (oB 0 [.null, .null, .null]))) (b + (s + 3 + 6 * q))).bind fun M21 => (sR M21 2 0 (b + (s + 1)) (nI q) (b + (s + 3 + 6 * q))).bind fun M22 => K M22) = _
  have e9 : c' (s + 1) = .inr (.inl (2, 10, fun i => if i < q then some (b + (s + 3 + 6 * i)) else none)) := by rw [e2 _ (by omega) (by omega), vn _ _ (by omega)]; exact SC_1
  rw [e1, Option.bind_some, r_sR (by omega) e9 (by omega) e3 hq (by omega), Option.bind_some, show s + 3 + 6 * q + 1 + 5 = s + 3 + 6 * (q + 1) by omega]
  congr 1
  refine Gr_cg (fun k hk => ?_)
  by_cases g1 : k = s + 1
  · rw [g1, vs, SC_1]
    congr 4
    funext i
    by_cases g : i = q
    · rw [g, va_up_self, if_pos (by omega)]
    · rw [va_up_ne _ _ g]
      by_cases g2 : i < q
      · rw [if_pos g2, if_pos (by omega)]
      · rw [if_neg g2, if_neg (by omega)]
  · rw [vn _ _ g1]
    by_cases g2 : k < s + 3 + 6 * q
    · rw [e2 k (by omega) (by omega), vn _ _ (by omega)]
      by_cases g3 : k = s + 2
      · rw [g3, SC_2, SC_2]
      · exact SC_q g1 g3
    · have hr : ∀ j, j < 6 → SC b c0 s (q + 1) 0 (s + (3 + 6 * q + j)) = if j = 0 then oB 0 [.ref (b + (s + (3 + 6 * q + j) + 1)), .ref (b + (s + (3 + 6 * q + j) + 2)), .ref (b + (s + (3 + 6 * q + j) + 4))] else if j = 1 then .inl (0, 3, d9 (3 + 6 * q + j)) else if j = 2 ∨ j = 4 then oB 5 [.ref (b + (s + (3 + 6 * q + j) + 1)), .int (d9 (3 + 6 * q + j) 1)] else .inl (0, 6, d9 (3 + 6 * q + j)) := fun j hj => by rw [SC_r (by omega), stc_b hq hj]
      obtain ⟨j, hj, rfl⟩ : ∃ j, j < 6 ∧ k = s + (3 + 6 * q + j) := ⟨k - (s + 3 + 6 * q), by omega, by omega⟩
      rw [hr j hj]
      have z0 : d9 (3 + 6 * q + 3) = fun _ => 0 := funext fun i => by rw [d9_b hq (by omega)]; exact if_neg (by omega)
      have z1 : d9 (3 + 6 * q + 5) = fun _ => 0 := funext fun i => by rw [d9_b hq (by omega)]; exact if_neg (by omega)
      have z2 : d9 (3 + 6 * q + 1) = va_up (va_up (va_up (fun _ => 0) 0 60) 1 0) 2 0 := funext fun i => by
        rw [d9_b hq (by omega)]
        unfold va_up
        by_cases i2 : i = 2
        · rw [if_pos i2, if_neg (by omega)]
        · rw [if_neg i2]
          by_cases i1 : i = 1
          · rw [if_pos i1, if_neg (by omega)]
          · rw [if_neg i1]
            by_cases i0 : i = 0
            · rw [if_pos i0, if_pos (by omega)]
            · rw [if_neg i0, if_neg (by omega)]
      match j, hj with
      | 0, _ =>
        rw [show s + (3 + 6 * q + 0) = s + 3 + 6 * q by omega, e3]
        rfl
      | 1, _ =>
        rw [show s + (3 + 6 * q + 1) = s + 3 + 6 * q + 1 by omega, e4, z2]
        rfl
      | 2, _ =>
        rw [show s + (3 + 6 * q + 2) = s + 3 + 6 * q + 1 + 1 by omega, e5, d9_b hq (by omega)]
        rfl
      | 3, _ =>
        rw [show s + (3 + 6 * q + 3) = s + 3 + 6 * q + 1 + 2 by omega, e6, z0]
        rfl
      | 4, _ =>
        rw [show s + (3 + 6 * q + 4) = s + 3 + 6 * q + 1 + 3 by omega, e7, d9_b hq (by omega)]
        rfl
      | 5, _ =>
        rw [show s + (3 + 6 * q + 5) = s + 3 + 6 * q + 1 + 4 by omega, e8, z1]
        rfl
theorem mov_step (x : Int32) (hx : x = nI m) (hm : m < 10) (K : Wo → Option Wo) : ((gR (Gr b (s + 63 + m) (SC b c0 s 10 m)) (b + s) 6 1).bind fun w15 => (nwO (Gr b (s + 63 + m) (SC b c0 s 10 m)) 4 [.int 0, .int 0, .int 0, .int 0]).bind (un2 fun w17 M18 => (X4_init M18 w17).bind fun M21 => (sR M21 3 4 w15 x w17).bind fun M22 => K M22)) = K (Gr b (s + 63 + (m + 1)) (SC b c0 s 10 (m + 1))) := by
  rw [r_gR (by omega) SC_0 rfl, Option.bind_some, r_nwO, Option.bind_some, hx]
  show ((X4_init (Gr b (s + 63 + m + 1) (va_up (SC b c0 s 10 m) (s + 63 + m) (oB 4 [.int 0, .int 0, .int 0, .int 0]))) (b + (s + 63 + m))).bind fun M21 => (sR M21 3 4 (b + (s + 2)) (nI m) (b + (s + 63 + m))).bind fun M22 => K M22) = _
  rw [X4_init_r (by omega) (vs _ _ _), Option.bind_some, r_sR (k := s + 2) (by omega) ((vn _ _ (by omega)).trans ((vn _ _ (by omega)).trans SC_2)) (by omega) (vs _ _ _) hm (by omega), Option.bind_some]
  congr 1
  refine Gr_cg (fun k hk => ?_)
  by_cases g1 : k = s + 2
  · rw [g1, vs, SC_2]
    congr 4
    funext i
    by_cases g : i = m
    · rw [g, va_up_self, if_pos (by omega)]
    · rw [va_up_ne _ _ g]
      by_cases g2 : i < m
      · rw [if_pos g2, if_pos (by omega)]
      · rw [if_neg g2, if_neg (by omega)]
  · rw [vn _ _ g1]
    by_cases g2 : k = s + 63 + m
    · rw [g2, vs, show s + 63 + m = s + (63 + m) by omega, SC_r (by omega)]
      unfold stc
      rw [if_neg (by omega), if_neg (by omega), if_neg (by omega), if_neg (by omega)]
      have hd : ∀ i, d9 (63 + m) i = if i = 3 then 1 else 0 := fun i => by
        unfold d9
        rw [if_neg (by omega), if_pos (by omega)]
      rw [hd, hd, hd, hd]
      rfl
    · rw [vn _ _ g2, vn _ _ g2]
      by_cases g3 : k = s + 1
      · rw [g3, SC_1, SC_1]
      · exact SC_q g3 g1
theorem X6_init_r (hc : c s = oB 6 [.null, .null, .int 0, .int 0]) : X6_init (Gr b (s + 1) c) (b + s) = some (Gr b (s + 73) (SC b c s 10 10)) := by
  unfold X6_init
  rw [r_ck (by omega) hc, Option.bind_some, r_nwR, Option.bind_some]
  show ((pV (Gr b (s + 1 + 1) (va_up c (s + 1) (.inr (.inl (2, 10, fun _ => none))))) (b + s) 6 0 (.ref (b + (s + 1)))).bind _) = _
  rw [r_pV (by omega) ((vn _ _ (by omega)).trans hc) (Nat.le_of_ble_eq_true rfl), Option.bind_some, r_nwR, Option.bind_some]
  show ((pV (Gr b (s + 1 + 1 + 1) (va_up (va_up (va_up c (s + 1) (.inr (.inl (2, 10, fun _ => none)))) s (oB 6 [.ref (b + (s + 1)), .null, .int 0, .int 0])) (s + 2) (.inr (.inl (3, 10, fun _ => none))))) (b + s) 6 1 (.ref (b + (s + 2)))).bind _) = _
  rw [r_pV (by omega) ((vn _ _ (by omega)).trans (vs _ _ _)) (Nat.le_of_ble_eq_true rfl), Option.bind_some, r_pV (by omega) (vs _ _ _) (Nat.le_of_ble_eq_true rfl), Option.bind_some, r_pV (by omega) (vs _ _ _) (Nat.le_of_ble_eq_true rfl), Option.bind_some]
  rw [Gr_cg (b := b) (n := s + 1 + 1 + 1) (c' := SC b c s 0 0) (fun k hk => ?_)]
  · have h0 : Gr b (s + 1 + 1 + 1) (SC b c s 0 0) = Gr b (s + 3 + 6 * 0) (SC b c s 0 0) := rfl
    rw [h0, bar_step (q := 0) 0 rfl (by omega), bar_step (q := 1) 1 rfl (by omega), bar_step (q := 2) 2 rfl (by omega), bar_step (q := 3) 3 rfl (by omega), bar_step (q := 4) 4 rfl (by omega), bar_step (q := 5) 5 rfl (by omega), bar_step (q := 6) 6 rfl (by omega), bar_step (q := 7) 7 rfl (by omega), bar_step (q := 8) 8 rfl (by omega), bar_step (q := 9) 9 rfl (by omega)]
    have h1 : Gr b (s + 3 + 6 * (9 + 1)) (SC b c s (9 + 1) 0) = Gr b (s + 63 + 0) (SC b c s 10 0) := rfl
    rw [h1, mov_step (m := 0) 0 rfl (by omega), mov_step (m := 1) 1 rfl (by omega), mov_step (m := 2) 2 rfl (by omega), mov_step (m := 3) 3 rfl (by omega), mov_step (m := 4) 4 rfl (by omega), mov_step (m := 5) 5 rfl (by omega), mov_step (m := 6) 6 rfl (by omega), mov_step (m := 7) 7 rfl (by omega), mov_step (m := 8) 8 rfl (by omega), mov_step (m := 9) 9 rfl (by omega)]
  · by_cases g0 : k = s
    · rw [g0, vs, SC_0]; rfl
    · rw [vn _ _ g0, vn _ _ g0, vn _ _ g0]
      by_cases g2 : k = s + 2
      · rw [g2, vs, SC_2]
        congr 4
      · rw [vn _ _ g2, vn _ _ g0]
        by_cases g1 : k = s + 1
        · rw [g1, vs, SC_1]
          congr 4
        · rw [vn _ _ g1]
          unfold SC
          rw [if_pos (by omega)]
end STAGE0
end GROW
