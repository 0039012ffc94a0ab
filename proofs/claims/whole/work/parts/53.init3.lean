/-! THE BEGINNING: the reference's side, and the law -/
def WC (b : Nat) (f : Nat → Int32) : Nat → Ce := fun k => if k = 244 then .inl (0, 212, f) else NC b (t7 b) (t74 b) k
section INIT3
variable {b : Nat}
theorem X8_init_r : X8_init (Gr b 244 (va_up (NC b (t7 b) (t74 b)) 243 (oB 8 [.null, .null, .null, .null, .int 0, .null, .null, .null, .null, .int 0, .null, .null, .null]))) (b + 243) = some (wld b d0) := by
  have st : ∀ (m : Nat) (c : Nat → Ce) (kd N j : Nat) (fs : List Value), 243 < m → j < fs.length → c 243 = oB 8 fs → ∀ K : Wo → Option Wo, ((nwA (Gr b m c) kd N).bind (un2 fun w3 M4 => (pV M4 (b + 243) 8 j (.ref w3)).bind K)) = K (Gr b (m + 1) (va_up (va_up c m (.inl (kd, N, fun _ => 0))) 243 (oB 8 (fs.set j (.ref (b + m)))))) := by
    intro m c kd N j fs hm hj e K
    rw [r_nwA, Option.bind_some]
    show ((pV (Gr b (m + 1) (va_up c m (.inl (kd, N, fun _ => 0)))) (b + 243) 8 j (.ref (b + m))).bind K) = _
    rw [r_pV (k := 243) (by omega) ((vn _ _ (by omega)).trans e) hj, Option.bind_some]
  unfold X8_init
  rw [r_ck (by omega) (vs _ _ _), Option.bind_some]
  rw [st 244 _ 0 212 0 _ (by omega) (Nat.le_of_ble_eq_true rfl) (vs _ _ _), st 245 _ 0 424 1 _ (by omega) (Nat.le_of_ble_eq_true rfl) (vs _ _ _), st 246 _ 1 2 2 _ (by omega) (Nat.le_of_ble_eq_true rfl) (vs _ _ _), st 247 _ 0 4096 3 _ (by omega) (Nat.le_of_ble_eq_true rfl) (vs _ _ _), st 248 _ 0 301 5 _ (by omega) (Nat.le_of_ble_eq_true rfl) (vs _ _ _), st 249 _ 0 3010 6 _ (by omega) (Nat.le_of_ble_eq_true rfl) (vs _ _ _), st 250 _ 0 10 7 _ (by omega) (Nat.le_of_ble_eq_true rfl) (vs _ _ _), st 251 _ 0 10 8 _ (by omega) (Nat.le_of_ble_eq_true rfl) (vs _ _ _), st 252 _ 1 1024 10 _ (by omega) (Nat.le_of_ble_eq_true rfl) (vs _ _ _), st 253 _ 0 1024 11 _ (by omega) (Nat.le_of_ble_eq_true rfl) (vs _ _ _), st 254 _ 0 10 12 _ (by omega) (Nat.le_of_ble_eq_true rfl) (vs _ _ _)]
  rw [Gr_cg (b := b) (n := 254 + 1) (c' := WC b (fun _ => 0)) (fun k hk => ?_)]
  · have g43 : ∀ f, gR (Gr b 255 (WC b f)) (b + 243) 8 0 = some (b + 244) := fun f => r_gR (k := 243) (fs := [.ref (b + 244), .ref (b + 245), .ref (b + 246), .ref (b + 247), .int 0, .ref (b + 248), .ref (b + 249), .ref (b + 250), .ref (b + 251), .int 0, .ref (b + 252), .ref (b + 253), .ref (b + 254)]) (by omega) (by
      unfold WC
      rw [if_neg (by omega), NC_at (by omega) (by omega)]
      rfl) rfl
    have up : ∀ f j v, va_up (WC b f) 244 (.inl (0, 212, va_up f j v)) = WC b (va_up f j v) := fun f j v => by
      funext k
      unfold WC
      by_cases g : k = 244
      · rw [g, vs, if_pos rfl]
      · rw [vn _ _ g, if_neg g, if_neg g]
    have lp : wloop (un2 (X8_init_b100 (b + 243))) FU (Gr b 255 (WC b (fun _ => 0)), (0 : Int32)) = some (Gr b 255 (WC b (fun j => if j < 10 then 60 else 0))) := wl_count (fun i => (Gr b 255 (WC b (fun j => if j < i then 60 else 0)), nI i)) 10 (Gr b 255 (WC b (fun j => if j < 10 then 60 else 0))) (fun i hi => by
      have c1 : ¬ 10 ≤ i := by omega
      show X8_init_b100 (b + 243) (Gr b 255 (WC b (fun j => if j < i then 60 else 0))) (nI i) = _
      unfold X8_init_b100
      rw [c_10, if_neg (fun g => c1 ((nI_leI (a := 10) (by omega) (by omega)).mp g)), g43, Option.bind_some, c_0, nI_add, Nat.zero_add, r_sA (k := 244) (by omega) (show WC b _ 244 = _ from if_pos rfl) (by omega) (by omega), Option.bind_some, up, nI_1]
      congr 5
      funext j
      unfold va_up
      by_cases g : j = i
      · rw [if_pos g, if_pos (by omega)]
      · rw [if_neg g]
        dsimp only
        by_cases g2 : j < i
        · rw [if_pos g2, if_pos (by omega)]
        · rw [if_neg g2, if_neg (by omega)]) (by
      show X8_init_b100 (b + 243) (Gr b 255 (WC b (fun j => if j < 10 then 60 else 0))) (nI 10) = _
      unfold X8_init_b100
      rw [c_10, if_pos (nI_le (Nat.le_refl 10) (by omega))]) (by omega) (by
      show (Gr b 255 (WC b (fun _ => 0)), nI 0) = (Gr b 255 (WC b (fun j => if j < 0 then 60 else 0)), nI 0)
      congr 3)
    show ((wloop (un2 (X8_init_b100 (b + 243))) FU (Gr b 255 (WC b (fun _ => 0)), (0 : Int32))).bind _) = _
    rw [lp, Option.bind_some, g43, Option.bind_some, c_170, r_sA (k := 244) (by omega) (show WC b _ 244 = _ from if_pos rfl) (by omega) (by omega), Option.bind_some, up]
    show some (Gr b 255 _) = some (Gr b 255 (fun k => shape b k (d0 k)))
    congr 1
    refine Gr_cg (fun k hk => ?_)
    unfold WC
    by_cases g : k = 244
    · rw [if_pos g, g]
      show (.inl (0, 212, va_up (fun j => if j < 10 then 60 else 0) 170 20) : Ce) = .inl (0, 212, d0 244)
      congr 3
      funext j
      have e : d0 244 j = if j < 10 then 60 else if j = 170 then 20 else 0 := rfl
      rw [e]
      unfold va_up
      by_cases j1 : j = 170
      · rw [if_pos j1, if_neg (by omega), if_pos j1]
      · rw [if_neg j1, if_neg j1]
    · rw [if_neg g]
      unfold NC
      by_cases k0 : k = 0
      · rw [if_pos k0, k0]; rfl
      · rw [if_neg k0]
        by_cases k4 : k = 74
        · rw [if_pos k4, k4]; rfl
        · rw [if_neg k4]
  · by_cases g : k = 243
    · rw [g, vs]
      unfold WC
      rw [if_neg (by omega), NC_at (by omega) (by omega)]
      rfl
    · have nx : ∀ (c : Nat → Ce) (m kd N : Nat) (y : Ce), (k = m → (.inl (kd, N, fun _ => 0) : Ce) = WC b (fun _ => 0) k) → (k ≠ m → c k = WC b (fun _ => 0) k) → va_up (va_up c m (.inl (kd, N, fun _ => 0))) 243 y k = WC b (fun _ => 0) k := fun c m kd N y h1 h2 => by
        rw [vn _ _ g]
        by_cases e : k = m
        · rw [e, vs, ← e]; exact h1 e
        · rw [vn _ _ e]; exact h2 e
      have zz : ∀ m (x : Ce), m ≠ 244 → m ≠ 0 → m ≠ 74 → k = m → shape b m (d0 m) = x → x = WC b (fun _ => 0) k := fun m x a1 a2 a3 e h => by
        subst e
        unfold WC
        rw [if_neg a1, NC_at a2 a3, h]
      refine nx _ 254 0 10 _ (fun e => zz 254 _ (by omega) (by omega) (by omega) e rfl) (fun _ => nx _ 253 0 1024 _ (fun e => zz 253 _ (by omega) (by omega) (by omega) e rfl) (fun _ => nx _ 252 1 1024 _ (fun e => zz 252 _ (by omega) (by omega) (by omega) e rfl) (fun _ => nx _ 251 0 10 _ (fun e => zz 251 _ (by omega) (by omega) (by omega) e rfl) (fun _ => nx _ 250 0 10 _ (fun e => zz 250 _ (by omega) (by omega) (by omega) e rfl) (fun _ => nx _ 249 0 3010 _ (fun e => zz 249 _ (by omega) (by omega) (by omega) e rfl) (fun _ => nx _ 248 0 301 _ (fun e => zz 248 _ (by omega) (by omega) (by omega) e rfl) (fun _ => nx _ 247 0 4096 _ (fun e => zz 247 _ (by omega) (by omega) (by omega) e rfl) (fun _ => nx _ 246 1 2 _ (fun e => zz 246 _ (by omega) (by omega) (by omega) e rfl) (fun _ => nx _ 245 0 424 _ (fun e => zz 245 _ (by omega) (by omega) (by omega) e rfl) (fun _ => nx _ 244 0 212 _ (fun e => ?_) (fun e => ?_)))))))))))
      · unfold WC
        rw [if_pos e]
      · rw [vn _ _ g]
        unfold WC
        rw [if_neg e]
def s0 : Sg := fun k => if k < 10 then 60 else if k = 170 then 20 else 0
theorem Iv_0 : Iv d0 s0 := by
  have z : ∀ k, 10 ≤ k → k ≠ 170 → s0 k = 0 := fun k h1 h2 => by
    unfold s0
    rw [if_neg (by omega), if_neg h2]
  have zq : ∀ k, k < 10 → s0 k = 60 := fun k h => if_pos h
  have zs : s0 170 = 20 := rfl
  refine ⟨⟨fun q hq => ?_, fun q i hq hi => ?_, fun q i k hq hi hk => ?_, ?_, ?_, fun m hm => ?_, fun m hm => ?_, fun m k hm => ?_⟩, ⟨fun q w hq hw => ?_, fun q i hq hi => ?_, fun q i k hq hi hk => ?_, ?_, ?_, fun m f hm => ?_⟩, fun i hi => ?_, 0, by omega, ?_, fun k hk => ⟨?_, fun h => ?_⟩⟩
  · rw [zq q hq, z _ (by omega) (by omega), z _ (by omega) (by omega)]; omega
  · rw [z _ (by omega) (by omega)]; omega
  · rw [z _ (by omega) (by omega)]; omega
  · rw [zs]; omega
  · rw [z _ (by omega) (by omega)]; omega
  · rw [z _ (by omega) (by omega), z _ (by omega) (by omega), z _ (by omega) (by omega), z _ (by omega) (by omega)]; omega
  · rw [z 211 (by omega) (by omega)] at hm; omega
  · rw [z 211 (by omega) (by omega)] at hm; omega
  · rw [show lSet 1 q = 1 + (3 + 6 * q + 1) by unfold lSet; omega, d0_1 (by omega), d9_b hq (by omega)]
    by_cases w0 : w = 0
    · rw [if_pos ⟨rfl, w0⟩, zq _ (by omega)]; rfl
    · rw [if_neg (fun g => w0 g.2), z _ (by omega) (by omega)]; rfl
  · rw [show lPil 1 q i = 1 + (3 + 6 * q + (2 + 2 * i)) by unfold lPil; omega, d0_1 (by omega), d9_b hq (by omega), if_neg (by omega), z _ (by omega) (by omega)]; rfl
  · rw [z _ (by omega) (by omega)] at hk; omega
  · rw [z _ (by omega) (by omega)]; rfl
  · rw [zs]; rfl
  · rw [z 211 (by omega) (by omega)] at hm; omega
  · show d0 244 i = nI (s0 i)
    have e : d0 244 i = if i < 10 then 60 else if i = 170 then 20 else 0 := rfl
    rw [e]
    unfold s0
    split
    · rfl
    · split <;> rfl
  · rw [d0_z (by omega)]; rfl
  · rw [d0_z (by omega), Nat.zero_testBit]; rfl
  · rw [Nat.zero_testBit] at h; cases h
end INIT3
/-- LAYER 2: the law, as a function, comes to its end for every script -/
theorem law_true (b L : Nat) (xs : Nat → Int32) (a : Nat) (hL : L ≤ 2560) : ∃ o, L_law L xs (b, fun _ => none) a = some o := by
  have e0 : ((b, fun _ => none) : Wo) = Gr b 0 (fun _ => .inl (0, 0, fun _ => 0)) := by
    unfold Gr
    refine Prod.ext rfl (funext fun k => ?_)
    dsimp only
    rw [if_neg (by omega)]
  obtain ⟨o, ho⟩ := law_loop (b := b) (xs := xs) Iv_0 hL a
  unfold L_law
  rw [e0, r_nwO, Option.bind_some]
  refine ⟨o, ?_⟩
  show ((X7_init (Gr b 1 (va_up (fun _ => .inl (0, 0, fun _ => 0)) 0 (oB 7 [.null, .null, .int 0, .null, .null, .null]))) b).bind fun M5 => (nwO M5 8 [.null, .null, .null, .null, .int 0, .null, .null, .null, .null, .int 0, .null, .null, .null]).bind (un2 fun w6 M7 => (X8_init M7 w6).bind fun M10 => (wloop (un2 (L_law_b18 L xs a b w6)) FU (M10, (0 : Int32))).bind fun M318 => some M318)) = some o
  rw [X7_init_r (vs _ _ _), Option.bind_some, r_nwO, Option.bind_some]
  show ((X8_init (Gr b 244 (va_up (NC b (t7 b) (t74 b)) 243 (oB 8 [.null, .null, .null, .null, .int 0, .null, .null, .null, .null, .int 0, .null, .null, .null]))) (b + 243)).bind fun M10 => (wloop (un2 (L_law_b18 L xs a b (b + 243))) FU (M10, (0 : Int32))).bind fun M318 => some M318) = some o
  rw [X8_init_r, Option.bind_some, ho]
  rfl
