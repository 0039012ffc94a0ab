/-! THE BEGINNING: all of it -/
def d0 : Da := fun k j => if 1 ≤ k ∧ k < 74 then d9 (k - 1) j else if 97 ≤ k ∧ k < 170 then d9 (k - 97) j else if 170 ≤ k ∧ k < 243 then d9 (k - 170) j else if k = 244 then (if j < 10 then 60 else if j = 170 then 20 else 0) else 0
def NC (b : Nat) (f0 f74 : Ce) : Nat → Ce := fun k => if k = 0 then f0 else if k = 74 then f74 else shape b k (d0 k)
theorem NC_0 (b : Nat) (f0 f74 x : Ce) : va_up (NC b f0 f74) 0 x = NC b x f74 := by
  funext k
  unfold va_up NC
  by_cases e : k = 0
  · rw [if_pos e, if_pos e]
  · rw [if_neg e, if_neg e, if_neg e]
theorem NC_74 (b : Nat) (f0 f74 x : Ce) : va_up (NC b f0 f74) 74 x = NC b f0 x := by
  funext k
  unfold va_up NC
  by_cases e : k = 74
  · rw [if_pos e, if_neg (by omega), if_pos e]
  · rw [if_neg e, if_neg e, if_neg e]
theorem NC_at {b : Nat} {f0 f74 : Ce} {k : Nat} (h : k ≠ 0) (h2 : k ≠ 74) : NC b f0 f74 k = shape b k (d0 k) := by
  unfold NC
  rw [if_neg h, if_neg h2]
theorem NC_a0 {b : Nat} {f0 f74 : Ce} : NC b f0 f74 0 = f0 := rfl
theorem NC_a4 {b : Nat} {f0 f74 : Ce} : NC b f0 f74 74 = f74 := rfl
section INIT2
variable {b n : Nat} {c : Nat → Ce}
theorem SC_sh {s : Nat} (hs : isS s) (c0 : Nat → Ce) {r : Nat} (hr : r < 73) (hd : d0 (s + r) = d9 r) : SC b c0 s 10 10 (s + r) = shape b (s + r) (d0 (s + r)) := by
  rw [shp_s b _ hs hr, hd]
  match r, hr with
  | 0, _ => rw [Nat.add_zero, SC_0]; rfl
  | 1, _ => rw [SC_1]; rfl
  | 2, _ => rw [SC_2]; rfl
  | r + 3, _ => exact SC_r (by omega)
theorem d0_1 {r : Nat} (h : r < 73) : d0 (1 + r) = d9 r := by
  funext j
  unfold d0
  rw [if_pos (by omega), show 1 + r - 1 = r by omega]
theorem d0_2 {r : Nat} (h : r < 73) : d0 (97 + r) = d9 r := by
  funext j
  unfold d0
  rw [if_neg (by omega), if_pos (by omega), show 97 + r - 97 = r by omega]
theorem d0_3 {r : Nat} (h : r < 73) : d0 (170 + r) = d9 r := by
  funext j
  unfold d0
  rw [if_neg (by omega), if_neg (by omega), if_pos (by omega), show 170 + r - 170 = r by omega]
theorem d0_z {k : Nat} (h : k = 0 ∨ (74 ≤ k ∧ k < 97) ∨ k = 243 ∨ 245 ≤ k) : d0 k = fun _ => 0 := by
  funext j
  unfold d0
  rw [if_neg (by omega), if_neg (by omega), if_neg (by omega), if_neg (by omega)]
/-- a stage, made on top of what is there -/
theorem stage_r {f0 f74 : Ce} {s : Nat} (hs : isS s) (hd : ∀ r, r < 73 → d0 (s + r) = d9 r) : X6_init (Gr b (s + 1) (va_up (NC b f0 f74) s (oB 6 [.null, .null, .int 0, .int 0]))) (b + s) = some (Gr b (s + 73) (NC b f0 f74)) := by
  rw [X6_init_r (vs _ _ _)]
  congr 1
  refine Gr_cg (fun k hk => ?_)
  by_cases g : k < s
  · unfold SC
    rw [if_pos g, vn _ _ (by omega)]
  · obtain ⟨r, rfl⟩ : ∃ r, k = s + r := ⟨k - s, by omega⟩
    have h1 : s + r ≠ 0 := by
      unfold isS at hs
      omega
    have h2 : s + r ≠ 74 := by
      unfold isS at hs
      omega
    rw [SC_sh hs _ (by omega) (hd r (by omega)), NC_at h1 h2]
theorem X3_init_r {p : Nat} (hp : p < n) (e : c p = oB 3 [.null, .null, .null, .int 0, .int 0]) : X3_init (Gr b n c) (b + p) = some (Gr b (n + 3) (va_up (va_up (va_up (va_up c n (.inl (0, 64, fun _ => 0))) (n + 1) (.inl (0, 64, fun _ => 0))) (n + 2) (.inl (0, 4096, fun _ => 0))) p (oB 3 [.ref (b + n), .ref (b + (n + 1)), .ref (b + (n + 2)), .int 0, .int 0]))) := by
  unfold X3_init
  rw [r_ck hp e, Option.bind_some, r_nwA, Option.bind_some]
  show ((pV (Gr b (n + 1) (va_up c n (.inl (0, 64, fun _ => 0)))) (b + p) 3 0 (.ref (b + n))).bind _) = _
  rw [r_pV (k := p) (by omega) ((vn _ _ (by omega)).trans e) (Nat.le_of_ble_eq_true rfl), Option.bind_some, r_nwA, Option.bind_some]
  show ((pV (Gr b (n + 2) (va_up (va_up (va_up c n (.inl (0, 64, fun _ => 0))) p (oB 3 [.ref (b + n), .null, .null, .int 0, .int 0])) (n + 1) (.inl (0, 64, fun _ => 0)))) (b + p) 3 1 (.ref (b + (n + 1)))).bind _) = _
  rw [r_pV (k := p) (by omega) ((vn _ _ (by omega)).trans (vs _ _ _)) (Nat.le_of_ble_eq_true rfl), Option.bind_some, r_nwA, Option.bind_some]
  show ((pV (Gr b (n + 3) (va_up (va_up (va_up (va_up (va_up c n (.inl (0, 64, fun _ => 0))) p (oB 3 [.ref (b + n), .null, .null, .int 0, .int 0])) (n + 1) (.inl (0, 64, fun _ => 0))) p (oB 3 [.ref (b + n), .ref (b + (n + 1)), .null, .int 0, .int 0])) (n + 2) (.inl (0, 4096, fun _ => 0)))) (b + p) 3 2 (.ref (b + (n + 2)))).bind _) = _
  rw [r_pV (k := p) (by omega) ((vn _ _ (by omega)).trans (vs _ _ _)) (Nat.le_of_ble_eq_true rfl), Option.bind_some, r_pV (k := p) (by omega) (vs _ _ _) (Nat.le_of_ble_eq_true rfl), Option.bind_some, r_pV (k := p) (by omega) (vs _ _ _) (Nat.le_of_ble_eq_true rfl), Option.bind_some]
  congr 1
  refine Gr_cg (fun k hk => ?_)
  by_cases g : k = p
  · rw [g, vs, vs]; rfl
  · rw [vn _ _ g, vn _ _ g, vn _ _ g, vn _ _ g]
    by_cases g2 : k = n + 2
    · rw [g2, vs, vs]
    · rw [vn _ _ g2, vn _ _ g2, vn _ _ g]
      by_cases g3 : k = n + 1
      · rw [g3, vs, vs]
      · rw [vn _ _ g3, vn _ _ g3, vn _ _ g]
theorem r_nwM : nwM (Gr b n c) 10 301 = some (b + n, Gr b (n + 11) (fun k => if k = n then .inr (.inl (5, 10, fun i => if i < 10 then some (b + (n + 1 + i)) else none)) else if n < k then .inl (0, 301, fun _ => 0) else c k)) := by
  unfold nwM
  congr 2
  unfold wm Gr
  refine Prod.ext (by show b + n + 1 + 10 = b + (n + 11); omega) (funext fun a => ?_)
  dsimp only
  by_cases e : a = b + n
  · rw [if_pos e, if_pos (by omega), if_pos (by omega)]
    congr 5
    funext i
    rw [show b + n + 1 + i = b + (n + 1 + i) by omega]
  · rw [if_neg e]
    by_cases e2 : b + n < a ∧ a < b + n + 1 + 10
    · rw [if_pos e2, if_pos (by omega), if_neg (by omega), if_pos (by omega)]
    · rw [if_neg e2]
      by_cases e3 : b ≤ a ∧ a < b + n
      · rw [if_pos e3, if_pos (by omega), if_neg (by omega), if_neg (by omega)]
      · rw [if_neg e3, if_neg (by omega)]
theorem X2_init_r {f0 f74 : Ce} : X2_init (Gr b 80 (va_up (NC b f0 f74) 79 (oB 2 [.null]))) (b + 79) = some (Gr b 91 (NC b f0 f74)) := by
  unfold X2_init
  rw [r_ck (by omega) (vs _ _ _), Option.bind_some, r_nwM, Option.bind_some]
  have e1 : (fun k => if k = 80 then (.inr (.inl (5, 10, fun i => if i < 10 then some (b + (80 + 1 + i)) else none)) : Ce) else if 80 < k then .inl (0, 301, fun _ => 0) else va_up (NC b f0 f74) 79 (oB 2 [.null]) k) 79 = oB 2 [.null] := by
    dsimp only
    rw [if_neg (by omega), if_neg (by omega), vs]
  show ((pV (Gr b (80 + 11) (fun k => if k = 80 then (.inr (.inl (5, 10, fun i => if i < 10 then some (b + (80 + 1 + i)) else none)) : Ce) else if 80 < k then .inl (0, 301, fun _ => 0) else va_up (NC b f0 f74) 79 (oB 2 [.null]) k)) (b + 79) 2 0 (.ref (b + 80))).bind fun M4 => some M4) = _
  rw [r_pV (k := 79) (by omega) e1 (Nat.le_of_ble_eq_true rfl), Option.bind_some]
  congr 1
  refine Gr_cg (fun k hk => ?_)
  by_cases g : k = 79
  · rw [g, vs, NC_at (by omega) (by omega)]; rfl
  · rw [vn _ _ g]
    by_cases g2 : k = 80
    · rw [g2, NC_at (by omega) (by omega)]; rfl
    · rw [if_neg g2]
      by_cases g3 : 80 < k
      · obtain ⟨j, rfl⟩ : ∃ j, k = 81 + j := ⟨k - 81, by omega⟩
        rw [if_pos g3, NC_at (by omega) (by omega), (isA_row (j := j) (by omega)).2.2 b, d0_z (by omega)]
      · rw [if_neg g3, vn _ _ g]
theorem X1_init_r {f0 f74 : Ce} : X1_init (Gr b 92 (va_up (NC b f0 f74) 91 (oB 1 [.int 0, .null, .null, .null, .null, .null, .int 0]))) (b + 91) = some (Gr b 97 (NC b f0 f74)) := by
  have st : ∀ (m : Nat) (c : Nat → Ce) (kd j : Nat) (fs : List Value), 91 < m → j < fs.length → c 91 = oB 1 fs → ∀ K : Wo → Option Wo, ((nwA (Gr b m c) kd 10).bind (un2 fun w3 M4 => (pV M4 (b + 91) 1 j (.ref w3)).bind K)) = K (Gr b (m + 1) (va_up (va_up c m (.inl (kd, 10, fun _ => 0))) 91 (oB 1 (fs.set j (.ref (b + m)))))) := by
    intro m c kd j fs hm hj e K
    rw [r_nwA, Option.bind_some]
    show ((pV (Gr b (m + 1) (va_up c m (.inl (kd, 10, fun _ => 0)))) (b + 91) 1 j (.ref (b + m))).bind K) = _
    rw [r_pV (k := 91) (by omega) ((vn _ _ (by omega)).trans e) hj, Option.bind_some]
  unfold X1_init
  rw [r_ck (by omega) (vs _ _ _), Option.bind_some, r_pV (k := 91) (by omega) (vs _ _ _) (Nat.le_of_ble_eq_true rfl), Option.bind_some]
  rw [st 92 _ 0 1 _ (by omega) (Nat.le_of_ble_eq_true rfl) (vs _ _ _), st 93 _ 1 2 _ (by omega) (Nat.le_of_ble_eq_true rfl) (vs _ _ _), st 94 _ 0 3 _ (by omega) (Nat.le_of_ble_eq_true rfl) (vs _ _ _), st 95 _ 0 4 _ (by omega) (Nat.le_of_ble_eq_true rfl) (vs _ _ _), st 96 _ 0 5 _ (by omega) (Nat.le_of_ble_eq_true rfl) (vs _ _ _), r_pV (k := 91) (by omega) (vs _ _ _) (Nat.le_of_ble_eq_true rfl), Option.bind_some]
  congr 1
  refine Gr_cg (fun k hk => ?_)
  by_cases g : k = 91
  · rw [g, vs, NC_at (by omega) (by omega)]; rfl
  · rw [vn _ _ g, vn _ _ g]
    by_cases g6 : k = 96
    · rw [g6, vs, NC_at (by omega) (by omega)]; rfl
    · rw [vn _ _ g6, vn _ _ g]
      by_cases g5 : k = 95
      · rw [g5, vs, NC_at (by omega) (by omega)]; rfl
      · rw [vn _ _ g5, vn _ _ g]
        by_cases g4 : k = 94
        · rw [g4, vs, NC_at (by omega) (by omega)]; rfl
        · rw [vn _ _ g4, vn _ _ g]
          by_cases g3 : k = 93
          · rw [g3, vs, NC_at (by omega) (by omega)]; rfl
          · rw [vn _ _ g3, vn _ _ g]
            by_cases g2 : k = 92
            · rw [g2, vs, NC_at (by omega) (by omega)]; rfl
            · rw [vn _ _ g2, vn _ _ g, vn _ _ g]
/-- the program's side -/
def t7 (b : Nat) : Ce := shape b 0 (d0 0)
def t74 (b : Nat) : Ce := shape b 74 (d0 74)
theorem X7_init_r (hc : c 0 = oB 7 [.null, .null, .int 0, .null, .null, .null]) : X7_init (Gr b 1 c) b = some (Gr b 243 (NC b (t7 b) (t74 b))) := by
  have e0 : Gr b 1 c = Gr b 1 (NC b (oB 7 [.null, .null, .int 0, .null, .null, .null]) (.inl (0, 0, fun _ => 0))) := Gr_cg (fun k hk => by
    have : k = 0 := by omega
    subst this
    exact hc)
  have ck : ∀ n f, 0 < n → ckO (Gr b n (NC b (oB 7 f) (.inl (0, 0, fun _ => 0)))) b 7 = some () := fun n f h => r_ck (k := 0) h rfl
  have pv : ∀ n f f74 j v, 0 < n → j < f.length → pV (Gr b n (NC b (oB 7 f) f74)) b 7 j v = some (Gr b n (NC b (oB 7 (f.set j v)) f74)) := fun n f f74 j v h hj => by
    have := r_pV (b := b) (k := 0) (ci := 7) (v := v) (j := j) h (show NC b (oB 7 f) f74 0 = oB 7 f from rfl) hj
    rw [NC_0] at this
    exact this
  have n75 : ∀ f0 f74, va_up (va_up (va_up (va_up (va_up (NC b f0 f74) 75 (oB 3 [.null, .null, .null, .int 0, .int 0])) 76 (.inl (0, 64, fun _ => 0))) (76 + 1) (.inl (0, 64, fun _ => 0))) (76 + 2) (.inl (0, 4096, fun _ => 0))) 75 (oB 3 [.ref (b + 76), .ref (b + (76 + 1)), .ref (b + (76 + 2)), .int 0, .int 0]) = NC b f0 f74 := by
    intro f0 f74
    funext k
    by_cases g : k = 75
    · rw [g, vs, NC_at (by omega) (by omega)]; rfl
    · rw [vn _ _ g]
      by_cases g3 : k = 78
      · rw [g3, vs, NC_at (by omega) (by omega)]; rfl
      · rw [vn _ _ (by omega)]
        by_cases g2 : k = 77
        · rw [g2, vs, NC_at (by omega) (by omega)]; rfl
        · rw [vn _ _ (by omega)]
          by_cases g1 : k = 76
          · rw [g1, vs, NC_at (by omega) (by omega)]; rfl
          · rw [vn _ _ g1, vn _ _ g]
  unfold X7_init
  rw [e0, ck 1 _ (by omega), Option.bind_some, r_nwO, Option.bind_some]
  show ((X6_init (Gr b (1 + 1) (va_up (NC b (oB 7 [.null, .null, .int 0, .null, .null, .null]) (.inl (0, 0, fun _ => 0))) 1 (oB 6 [.null, .null, .int 0, .int 0]))) (b + 1)).bind _) = _
  rw [stage_r isS_1 (fun r hr => d0_1 hr), Option.bind_some]
  show ((pV (Gr b 74 (NC b (oB 7 [.null, .null, .int 0, .null, .null, .null]) (.inl (0, 0, fun _ => 0)))) b 7 0 (.ref (b + 1))).bind _) = _
  rw [pv _ _ _ _ _ (by omega) (Nat.le_of_ble_eq_true rfl), Option.bind_some, r_nwR, Option.bind_some, NC_74]
  show ((pV (Gr b 75 (NC b (oB 7 [.ref (b + 1), .null, .int 0, .null, .null, .null]) (.inr (.inl (4, 2, fun _ => none))))) b 7 1 (.ref (b + 74))).bind _) = _
  rw [pv _ _ _ _ _ (by omega) (Nat.le_of_ble_eq_true rfl), Option.bind_some, pv _ _ _ _ _ (by omega) (Nat.le_of_ble_eq_true rfl), Option.bind_some, r_nwO, Option.bind_some]
  show ((X3_init (Gr b 76 (va_up (NC b (oB 7 [.ref (b + 1), .ref (b + 74), .int 0, .null, .null, .null]) (.inr (.inl (4, 2, fun _ => none)))) 75 (oB 3 [.null, .null, .null, .int 0, .int 0]))) (b + 75)).bind _) = _
  rw [X3_init_r (by omega) (vs _ _ _), n75, Option.bind_some]
  show ((pV (Gr b 79 (NC b (oB 7 [.ref (b + 1), .ref (b + 74), .int 0, .null, .null, .null]) (.inr (.inl (4, 2, fun _ => none))))) b 7 3 (.ref (b + 75))).bind _) = _
  rw [pv _ _ _ _ _ (by omega) (Nat.le_of_ble_eq_true rfl), Option.bind_some, r_nwO, Option.bind_some]
  show ((X2_init (Gr b 80 (va_up (NC b (oB 7 [.ref (b + 1), .ref (b + 74), .int 0, .ref (b + 75), .null, .null]) (.inr (.inl (4, 2, fun _ => none)))) 79 (oB 2 [.null]))) (b + 79)).bind _) = _
  rw [X2_init_r, Option.bind_some]
  show ((pV (Gr b 91 (NC b (oB 7 [.ref (b + 1), .ref (b + 74), .int 0, .ref (b + 75), .null, .null]) (.inr (.inl (4, 2, fun _ => none))))) b 7 4 (.ref (b + 79))).bind _) = _
  rw [pv _ _ _ _ _ (by omega) (Nat.le_of_ble_eq_true rfl), Option.bind_some, r_nwO, Option.bind_some]
  show ((X1_init (Gr b 92 (va_up (NC b (oB 7 [.ref (b + 1), .ref (b + 74), .int 0, .ref (b + 75), .ref (b + 79), .null]) (.inr (.inl (4, 2, fun _ => none)))) 91 (oB 1 [.int 0, .null, .null, .null, .null, .null, .int 0]))) (b + 91)).bind _) = _
  rw [X1_init_r, Option.bind_some]
  show ((pV (Gr b 97 (NC b (oB 7 [.ref (b + 1), .ref (b + 74), .int 0, .ref (b + 75), .ref (b + 79), .null]) (.inr (.inl (4, 2, fun _ => none))))) b 7 5 (.ref (b + 91))).bind _) = _
  rw [pv _ _ _ _ _ (by omega) (Nat.le_of_ble_eq_true rfl), Option.bind_some]
  have gr : ∀ n f74, 0 < n → gR (Gr b n (NC b (oB 7 [.ref (b + 1), .ref (b + 74), .int 0, .ref (b + 75), .ref (b + 79), .ref (b + 91)]) f74)) b 7 1 = some (b + 74) := fun n f74 h => r_gR (k := 0) h rfl rfl
  show ((gR (Gr b 97 (NC b (oB 7 [.ref (b + 1), .ref (b + 74), .int 0, .ref (b + 75), .ref (b + 79), .ref (b + 91)]) (.inr (.inl (4, 2, fun _ => none))))) b 7 1).bind _) = _
  rw [gr _ _ (by omega), Option.bind_some]
  show ((nwO (Gr b 97 (NC b (oB 7 [.ref (b + 1), .ref (b + 74), .int 0, .ref (b + 75), .ref (b + 79), .ref (b + 91)]) (.inr (.inl (4, 2, fun _ => none))))) 6 [.null, .null, .int 0, .int 0]).bind _) = _
  rw [r_nwO, Option.bind_some]
  show ((X6_init (Gr b (97 + 1) (va_up (NC b (oB 7 [.ref (b + 1), .ref (b + 74), .int 0, .ref (b + 75), .ref (b + 79), .ref (b + 91)]) (.inr (.inl (4, 2, fun _ => none)))) 97 (oB 6 [.null, .null, .int 0, .int 0]))) (b + 97)).bind _) = _
  rw [stage_r (Or.inr (Or.inl rfl)) (fun r hr => d0_2 hr), Option.bind_some]
  have ob : ∀ f0 f74 s, s = 97 ∨ s = 170 → ∃ fs, NC b f0 f74 s = oB 6 fs := fun f0 f74 s hs => ⟨_, (NC_at (by omega) (by omega)).trans (sh_stage b (d0 s) (by unfold isS; omega))⟩
  obtain ⟨fs1, o1⟩ := ob (oB 7 [.ref (b + 1), .ref (b + 74), .int 0, .ref (b + 75), .ref (b + 79), .ref (b + 91)]) (.inr (.inl (4, 2, fun _ => none))) 97 (Or.inl rfl)
  show ((sR (Gr b (97 + 73) (NC b (oB 7 [.ref (b + 1), .ref (b + 74), .int 0, .ref (b + 75), .ref (b + 79), .ref (b + 91)]) (.inr (.inl (4, 2, fun _ => none))))) 4 6 (b + 74) (nI 0) (b + 97)).bind _) = _
  rw [r_sR (k := 74) (by omega) NC_a4 (by omega) o1 (by omega) (by omega), Option.bind_some, NC_74, gr _ _ (by omega), Option.bind_some, r_nwO, Option.bind_some]
  show ((X6_init (Gr b (170 + 1) (va_up (NC b (oB 7 [.ref (b + 1), .ref (b + 74), .int 0, .ref (b + 75), .ref (b + 79), .ref (b + 91)]) (.inr (.inl (4, 2, va_up (fun _ => none) 0 (some (b + 97)))))) 170 (oB 6 [.null, .null, .int 0, .int 0]))) (b + 170)).bind _) = _
  rw [stage_r (Or.inr (Or.inr rfl)) (fun r hr => d0_3 hr), Option.bind_some]
  obtain ⟨fs2, o2⟩ := ob (oB 7 [.ref (b + 1), .ref (b + 74), .int 0, .ref (b + 75), .ref (b + 79), .ref (b + 91)]) (.inr (.inl (4, 2, va_up (fun _ => none) 0 (some (b + 97))))) 170 (Or.inr rfl)
  show ((sR (Gr b (170 + 73) (NC b (oB 7 [.ref (b + 1), .ref (b + 74), .int 0, .ref (b + 75), .ref (b + 79), .ref (b + 91)]) (.inr (.inl (4, 2, va_up (fun _ => none) 0 (some (b + 97))))))) 4 6 (b + 74) (nI 1) (b + 170)).bind _) = _
  rw [r_sR (k := 74) (by omega) NC_a4 (by omega) o2 (by omega) (by omega), Option.bind_some, NC_74]
  have e74 : (.inr (.inl (4, 2, va_up (va_up (fun _ => none) 0 (some (b + 97))) 1 (some (b + 170)))) : Ce) = t74 b := by
    unfold t74
    show _ = (.inr (.inl (4, 2, fun i => if i < 2 then some (b + (97 + 73 * i)) else none)) : Ce)
    congr 4
    funext i
    unfold va_up
    by_cases i1 : i = 1
    · rw [if_pos i1, i1]; rfl
    · rw [if_neg i1]
      by_cases i0 : i = 0
      · rw [if_pos i0, i0]; rfl
      · rw [if_neg i0, if_neg (by omega)]
  rw [e74]
  rfl
end INIT2
