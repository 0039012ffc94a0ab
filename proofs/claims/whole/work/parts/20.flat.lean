/-! LAYER 2: no machine. The world as one flat memory: place k (its address is b + k), index j (a field's number, or a row's index). -/
abbrev Da : Type := Nat → Nat → Int32
def du (d : Da) (k j : Nat) (v : Int32) : Da := va_up d k (va_up (d k) j v)
abbrev oB (ci : Nat) (fs : List Value) : Ce := .inr (.inr (ci, fs))
/-- the cell at place s + r of a stage that begins at s -/
def stc (b s r : Nat) (f : Nat → Int32) : Ce :=
  if r = 0 then oB 6 [.ref (b + (s + 1)), .ref (b + (s + 2)), .int (f 2), .int (f 3)]
  else if r = 1 then .inr (.inl (2, 10, fun i => if i < 10 then some (b + (s + 3 + 6 * i)) else none))
  else if r = 2 then .inr (.inl (3, 10, fun i => if i < 10 then some (b + (s + 63 + i)) else none))
  else if r < 63 then
    (if (r - 3) % 6 = 0 then oB 0 [.ref (b + (s + r + 1)), .ref (b + (s + r + 2)), .ref (b + (s + r + 4))]
    else if (r - 3) % 6 = 1 then .inl (0, 3, f)
    else if (r - 3) % 6 = 2 ∨ (r - 3) % 6 = 4 then oB 5 [.ref (b + (s + r + 1)), .int (f 1)]
    else .inl (0, 6, f))
  else oB 4 [.int (f 0), .int (f 1), .int (f 2), .int (f 3)]
def shape (b k : Nat) (f : Nat → Int32) : Ce :=
  if k = 0 then oB 7 [.ref (b + 1), .ref (b + 74), .int (f 2), .ref (b + 75), .ref (b + 79), .ref (b + 91)]
  else if k < 74 then stc b 1 (k - 1) f
  else if k = 74 then .inr (.inl (4, 2, fun i => if i < 2 then some (b + (97 + 73 * i)) else none))
  else if k = 75 then oB 3 [.ref (b + 76), .ref (b + 77), .ref (b + 78), .int (f 3), .int (f 4)]
  else if k < 78 then .inl (0, 64, f)
  else if k = 78 then .inl (0, 4096, f)
  else if k = 79 then oB 2 [.ref (b + 80)]
  else if k = 80 then .inr (.inl (5, 10, fun i => if i < 10 then some (b + (81 + i)) else none))
  else if k < 91 then .inl (0, 301, f)
  else if k = 91 then oB 1 [.int (f 0), .ref (b + 92), .ref (b + 93), .ref (b + 94), .ref (b + 95), .ref (b + 96), .int (f 6)]
  else if k = 93 then .inl (1, 10, f)
  else if k < 97 then .inl (0, 10, f)
  else if k < 170 then stc b 97 (k - 97) f
  else if k < 243 then stc b 170 (k - 170) f
  else if k = 243 then oB 8 [.ref (b + 244), .ref (b + 245), .ref (b + 246), .ref (b + 247), .int (f 4), .ref (b + 248), .ref (b + 249), .ref (b + 250), .ref (b + 251), .int (f 9), .ref (b + 252), .ref (b + 253), .ref (b + 254)]
  else if k = 244 then .inl (0, 212, f)
  else if k = 245 then .inl (0, 424, f)
  else if k = 246 then .inl (1, 2, f)
  else if k = 247 then .inl (0, 4096, f)
  else if k = 248 then .inl (0, 301, f)
  else if k = 249 then .inl (0, 3010, f)
  else if k < 252 then .inl (0, 10, f)
  else if k = 252 then .inl (1, 1024, f)
  else if k = 253 then .inl (0, 1024, f)
  else .inl (0, 10, f)
def wld (b : Nat) (d : Da) : Wo := (b + 255, fun a => if b ≤ a ∧ a < b + 255 then some (shape b (a - b) (d (a - b))) else none)
theorem wld_at (b : Nat) (d : Da) {k : Nat} (h : k < 255) : (wld b d).2 (b + k) = some (shape b k (d k)) := by
  have e : b + k - b = k := by omega
  simp only [wld, e]
  rw [if_pos (by omega)]
theorem wld_up (b : Nat) (d : Da) {k : Nat} (h : k < 255) (f : Nat → Int32) (c : Ce) (hc : c = shape b k f) : wu (wld b d) (b + k) c = wld b (va_up d k f) := by
  subst hc
  unfold wu wld
  refine Prod.ext rfl (funext fun a => ?_)
  by_cases e : a = b + k
  · subst e
    have e2 : b + k - b = k := by omega
    simp only [va_up, if_true, e2]
    rw [if_pos (by omega)]
  · simp only [va_up, if_neg e]
    by_cases e3 : b ≤ a ∧ a < b + 255
    · rw [if_pos e3, if_pos e3, if_neg (by omega)]
    · rw [if_neg e3, if_neg e3]
theorem du_self (d : Da) (k j : Nat) (v : Int32) : du d k j v k j = v := by simp [du, va_up]
theorem du_row (d : Da) {k k' : Nat} (j : Nat) (v : Int32) (h : k' ≠ k) : du d k j v k' = d k' := by simp [du, va_up, h]
theorem du_ne (d : Da) (k : Nat) {j j' : Nat} (v : Int32) (h : j' ≠ j) : du d k j v k j' = d k j' := by simp [du, va_up, h]
theorem du_at (d : Da) (k j : Nat) (v : Int32) (k' j' : Nat) : du d k j v k' j' = if k' = k ∧ j' = j then v else d k' j' := by
  by_cases e : k' = k
  · subst e
    by_cases e2 : j' = j
    · subst e2; simp [du, va_up]
    · simp [du, va_up, e2]
  · simp [du, va_up, e]
/-! the operations over the flat memory -/
/-- k is the place of a row of n ints -/
def isA (k n : Nat) : Prop := k < 255 ∧ n < 5000 ∧ ∀ b f, shape b k f = .inl (0, n, f)
def isZ (k n : Nat) : Prop := k < 255 ∧ n < 5000 ∧ ∀ b f, shape b k f = .inl (1, n, f)
theorem cl_nI {j n : Nat} (h : j < n) (hn : n < 5000) : 0 ≤ nI j ∧ (nI j).toNatClampNeg = j := ⟨nI_pos' (by omega), nI_clamp (by omega)⟩
theorem lA_f {b : Nat} {d : Da} {k n j : Nat} (h : isA k n) (hj : j < n) : lA (wld b d) 0 (b + k) (nI j) = some (d k j) := by
  obtain ⟨h1, h2, h3⟩ := h
  obtain ⟨c1, c2⟩ := cl_nI hj h2
  simp only [lA, wld_at b d h1, h3, c2]
  rw [if_pos ⟨trivial, c1, hj⟩]
theorem lZ_f {b : Nat} {d : Da} {k n j : Nat} (h : isZ k n) (hj : j < n) : lA (wld b d) 1 (b + k) (nI j) = some (d k j) := by
  obtain ⟨h1, h2, h3⟩ := h
  obtain ⟨c1, c2⟩ := cl_nI hj h2
  simp only [lA, wld_at b d h1, h3, c2]
  rw [if_pos ⟨trivial, c1, hj⟩]
theorem sA_f {b : Nat} {d : Da} {k n j : Nat} {v : Int32} (h : isA k n) (hj : j < n) : sA (wld b d) (b + k) (nI j) v = some (wld b (du d k j v)) := by
  obtain ⟨h1, h2, h3⟩ := h
  obtain ⟨c1, c2⟩ := cl_nI hj h2
  simp only [sA, wld_at b d h1, h3, c2]
  rw [if_pos ⟨trivial, c1, hj⟩]
  exact congrArg some (wld_up b d h1 (va_up (d k) j v) _ (h3 b _).symm)
theorem sZ_f {b : Nat} {d : Da} {k n j : Nat} {v : Int32} (h : isZ k n) (hj : j < n) : sZ (wld b d) (b + k) (nI j) v = some (wld b (du d k j (vp_nar .boolean v))) := by
  obtain ⟨h1, h2, h3⟩ := h
  obtain ⟨c1, c2⟩ := cl_nI hj h2
  simp only [sZ, wld_at b d h1, h3, c2]
  rw [if_pos ⟨trivial, c1, hj⟩]
  exact congrArg some (wld_up b d h1 (va_up (d k) j (vp_nar .boolean v)) _ (h3 b _).symm)
theorem aL_f {b : Nat} {d : Da} {k n : Nat} (h : isA k n) : aL (wld b d) (b + k) = some (nI n) := by
  obtain ⟨h1, h2, h3⟩ := h
  simp only [aL, wld_at b d h1, h3]
  rw [if_pos trivial]
  rfl
theorem cpI_f {b : Nat} {d : Da} {k0 k n0 n m : Nat} (h0 : isA k0 n0) (h : isA k n) (hm0 : m ≤ n0) (hm : m ≤ n) : cpI (wld b d) (b + k0) 0 (b + k) 0 (nI m) = some (wld b (va_up d k (fun j => if j < m then d k0 j else d k j))) := by
  obtain ⟨h1, h2, h3⟩ := h
  obtain ⟨g1, g2, g3⟩ := h0
  have c1 : 0 ≤ nI m := nI_pos' (by omega)
  have c2 : (nI m).toNatClampNeg = m := nI_clamp (by omega)
  have c0 : (0 : Int32).toNatClampNeg = 0 := by decide
  simp only [cpI, wld_at b d h1, wld_at b d g1, h3, g3, c2, c0]
  rw [if_pos ⟨trivial, trivial, by decide, by decide, c1, by omega, by omega⟩]
  refine congrArg some (wld_up b d h1 _ _ ?_)
  rw [h3]
  congr 3
  funext j
  simp [va_cpy]
/-- place k holds an object of kind ci; rr: its fields -/
theorem gV_f {b : Nat} {d : Da} {k ci j : Nat} {fs : List Value} (h : k < 255) (hs : shape b k (d k) = oB ci fs) : gV (wld b d) (b + k) ci j = fs[j]? := by
  simp only [gV, wld_at b d h, hs]
  rw [if_pos trivial]
theorem gI_f {b : Nat} {d : Da} {k ci j : Nat} {fs : List Value} {v : Int32} (h : k < 255) (hs : shape b k (d k) = oB ci fs) (hv : fs[j]? = some (.int v)) : gI (wld b d) (b + k) ci j = some v := by
  simp only [gI, gV_f h hs, hv]
theorem gR_f {b : Nat} {d : Da} {k ci j : Nat} {fs : List Value} {v : Nat} (h : k < 255) (hs : shape b k (d k) = oB ci fs) (hv : fs[j]? = some (.ref v)) : gR (wld b d) (b + k) ci j = some v := by
  simp only [gR, gV_f h hs, hv]
theorem ckO_f {b : Nat} {d : Da} {k ci : Nat} {fs : List Value} (h : k < 255) (hs : shape b k (d k) = oB ci fs) : ckO (wld b d) (b + k) ci = some () := by
  simp only [ckO, wld_at b d h, hs]
  rw [if_pos trivial]
theorem pV_f {b : Nat} {d : Da} {k ci j : Nat} {fs : List Value} {v : Int32} (h : k < 255) (hs : shape b k (d k) = oB ci fs) (hl : j < fs.length) (hn : shape b k (va_up (d k) j v) = oB ci (fs.set j (.int v))) : pV (wld b d) (b + k) ci j (.int v) = some (wld b (du d k j v)) := by
  simp only [pV, wld_at b d h, hs]
  rw [if_pos ⟨trivial, hl⟩]
  exact congrArg some (wld_up b d h _ _ hn.symm)
theorem lR_f {b : Nat} {d : Da} {k kd n j v : Nat} {f : Nat → Option Nat} (h : k < 255) (hs : shape b k (d k) = .inr (.inl (kd, n, f))) (hn : n < 5000) (hj : j < n) (hv : f j = some v) : lR (wld b d) kd (b + k) (nI j) = some v := by
  obtain ⟨c1, c2⟩ := cl_nI hj hn
  simp only [lR, wld_at b d h, hs, c2]
  rw [if_pos ⟨trivial, c1, hj⟩]
  exact hv
/-! where things are -/
def lBar (s q : Nat) : Nat := s + 3 + 6 * q
def lSet (s q : Nat) : Nat := s + 4 + 6 * q
def lPil (s q i : Nat) : Nat := s + 5 + 6 * q + 2 * i
def lWei (s q i : Nat) : Nat := s + 6 + 6 * q + 2 * i
def lMov (s m : Nat) : Nat := s + 63 + m
def isS (s : Nat) : Prop := s = 1 ∨ s = 97 ∨ s = 170
theorem shp_s {s r : Nat} (b : Nat) (f : Nat → Int32) (hs : isS s) (hr : r < 73) : shape b (s + r) f = stc b s r f := by
  unfold shape
  rcases hs with rfl | rfl | rfl
  · rw [if_neg (by omega), if_pos (by omega)]
    rw [show 1 + r - 1 = r by omega]
  · rw [if_neg (by omega), if_neg (by omega), if_neg (by omega), if_neg (by omega), if_neg (by omega), if_neg (by omega), if_neg (by omega), if_neg (by omega), if_neg (by omega), if_neg (by omega), if_neg (by omega), if_neg (by omega), if_pos (by omega)]
    rw [show 97 + r - 97 = r by omega]
  · rw [if_neg (by omega), if_neg (by omega), if_neg (by omega), if_neg (by omega), if_neg (by omega), if_neg (by omega), if_neg (by omega), if_neg (by omega), if_neg (by omega), if_neg (by omega), if_neg (by omega), if_neg (by omega), if_neg (by omega), if_pos (by omega)]
    rw [show 170 + r - 170 = r by omega]
theorem isS_lt {s : Nat} (hs : isS s) : s + 73 ≤ 243 ∧ 1 ≤ s := by
  rcases hs with rfl | rfl | rfl <;> decide
theorem sh_stage {s : Nat} (b : Nat) (f : Nat → Int32) (hs : isS s) : shape b s f = oB 6 [.ref (b + (s + 1)), .ref (b + (s + 2)), .int (f 2), .int (f 3)] := by
  have h := shp_s b f hs (r := 0) (by omega)
  rw [Nat.add_zero] at h
  rw [h]
  rfl
theorem sh_bars {s : Nat} (b : Nat) (f : Nat → Int32) (hs : isS s) : shape b (s + 1) f = .inr (.inl (2, 10, fun i => if i < 10 then some (b + (s + 3 + 6 * i)) else none)) := by
  rw [shp_s b f hs (by omega)]
  rfl
theorem sh_movs {s : Nat} (b : Nat) (f : Nat → Int32) (hs : isS s) : shape b (s + 2) f = .inr (.inl (3, 10, fun i => if i < 10 then some (b + (s + 63 + i)) else none)) := by
  rw [shp_s b f hs (by omega)]
  rfl
theorem sh_bar {s q : Nat} (b : Nat) (f : Nat → Int32) (hs : isS s) (hq : q < 10) : shape b (lBar s q) f = oB 0 [.ref (b + lSet s q), .ref (b + lPil s q 0), .ref (b + lPil s q 1)] := by
  have e : lBar s q = s + (3 + 6 * q) := by unfold lBar; omega
  rw [e, shp_s b f hs (by omega)]
  unfold stc
  rw [if_neg (by omega), if_neg (by omega), if_neg (by omega), if_pos (by omega), if_pos (by omega)]
  rw [show s + (3 + 6 * q) + 1 = lSet s q by unfold lSet; omega, show s + (3 + 6 * q) + 2 = lPil s q 0 by unfold lPil; omega, show s + (3 + 6 * q) + 4 = lPil s q 1 by unfold lPil; omega]
theorem isA_set {s q : Nat} (hs : isS s) (hq : q < 10) : isA (lSet s q) 3 := by
  refine ⟨by have := isS_lt hs; unfold lSet; omega, by omega, fun b f => ?_⟩
  have e : lSet s q = s + (4 + 6 * q) := by unfold lSet; omega
  rw [e, shp_s b f hs (by omega)]
  unfold stc
  rw [if_neg (by omega), if_neg (by omega), if_neg (by omega), if_pos (by omega), if_neg (by omega), if_pos (by omega)]
theorem sh_pil {s q i : Nat} (b : Nat) (f : Nat → Int32) (hs : isS s) (hq : q < 10) (hi : i < 2) : shape b (lPil s q i) f = oB 5 [.ref (b + lWei s q i), .int (f 1)] := by
  have e : lPil s q i = s + (5 + 6 * q + 2 * i) := by unfold lPil; omega
  rw [e, shp_s b f hs (by omega)]
  unfold stc
  rw [if_neg (by omega), if_neg (by omega), if_neg (by omega), if_pos (by omega), if_neg (by omega), if_neg (by omega), if_pos (by omega)]
  rw [show s + (5 + 6 * q + 2 * i) + 1 = lWei s q i by unfold lWei; omega]
theorem isA_wei {s q i : Nat} (hs : isS s) (hq : q < 10) (hi : i < 2) : isA (lWei s q i) 6 := by
  refine ⟨by have := isS_lt hs; unfold lWei; omega, by omega, fun b f => ?_⟩
  have e : lWei s q i = s + (6 + 6 * q + 2 * i) := by unfold lWei; omega
  rw [e, shp_s b f hs (by omega)]
  unfold stc
  rw [if_neg (by omega), if_neg (by omega), if_neg (by omega), if_pos (by omega), if_neg (by omega), if_neg (by omega), if_neg (by omega)]
theorem sh_mov {s m : Nat} (b : Nat) (f : Nat → Int32) (hs : isS s) (hm : m < 10) : shape b (lMov s m) f = oB 4 [.int (f 0), .int (f 1), .int (f 2), .int (f 3)] := by
  have e : lMov s m = s + (63 + m) := by unfold lMov; omega
  rw [e, shp_s b f hs (by omega)]
  unfold stc
  rw [if_neg (by omega), if_neg (by omega), if_neg (by omega), if_neg (by omega)]
section FLAT
variable {b : Nat} {d : Da} {s q i m j : Nat}
theorem lt_bar (hs : isS s) (hq : q < 10) : lBar s q < 255 := by have := isS_lt hs; unfold lBar; omega
theorem lt_pil (hs : isS s) (hq : q < 10) (hi : i < 2) : lPil s q i < 255 := by have := isS_lt hs; unfold lPil; omega
theorem lt_mov (hs : isS s) (hm : m < 10) : lMov s m < 255 := by have := isS_lt hs; unfold lMov; omega
theorem f_bars (hs : isS s) : gR (wld b d) (b + s) 6 0 = some (b + (s + 1)) := gR_f (by have := isS_lt hs; omega) (sh_stage b _ hs) rfl
theorem f_movs (hs : isS s) : gR (wld b d) (b + s) 6 1 = some (b + (s + 2)) := gR_f (by have := isS_lt hs; omega) (sh_stage b _ hs) rfl
theorem f_cnt (hs : isS s) : gI (wld b d) (b + s) 6 2 = some (d s 2) := gI_f (by have := isS_lt hs; omega) (sh_stage b _ hs) rfl
theorem f_sway (hs : isS s) : gI (wld b d) (b + s) 6 3 = some (d s 3) := gI_f (by have := isS_lt hs; omega) (sh_stage b _ hs) rfl
theorem p_cnt {v : Int32} (hs : isS s) : pV (wld b d) (b + s) 6 2 (.int v) = some (wld b (du d s 2 v)) := pV_f (by have := isS_lt hs; omega) (sh_stage b _ hs) (Nat.le_of_ble_eq_true rfl) (by rw [sh_stage b _ hs]; rfl)
theorem p_sway {v : Int32} (hs : isS s) : pV (wld b d) (b + s) 6 3 (.int v) = some (wld b (du d s 3 v)) := pV_f (by have := isS_lt hs; omega) (sh_stage b _ hs) (Nat.le_of_ble_eq_true rfl) (by rw [sh_stage b _ hs]; rfl)
theorem k_stage (hs : isS s) : ckO (wld b d) (b + s) 6 = some () := ckO_f (by have := isS_lt hs; omega) (sh_stage b _ hs)
theorem f_bar (hs : isS s) (hq : q < 10) : lR (wld b d) 2 (b + (s + 1)) (nI q) = some (b + lBar s q) := lR_f (by have := isS_lt hs; omega) (sh_bars b _ hs) (by omega) hq (by rw [if_pos hq]; rfl)
theorem f_mov (hs : isS s) (hm : m < 10) : lR (wld b d) 3 (b + (s + 2)) (nI m) = some (b + lMov s m) := lR_f (by have := isS_lt hs; omega) (sh_movs b _ hs) (by omega) hm (by rw [if_pos hm]; rfl)
theorem f_set (hs : isS s) (hq : q < 10) : gR (wld b d) (b + lBar s q) 0 0 = some (b + lSet s q) := gR_f (lt_bar hs hq) (sh_bar b _ hs hq) rfl
theorem f_pcs (hs : isS s) (hq : q < 10) : gR (wld b d) (b + lBar s q) 0 1 = some (b + lPil s q 0) := gR_f (lt_bar hs hq) (sh_bar b _ hs hq) rfl
theorem f_brk (hs : isS s) (hq : q < 10) : gR (wld b d) (b + lBar s q) 0 2 = some (b + lPil s q 1) := gR_f (lt_bar hs hq) (sh_bar b _ hs hq) rfl
theorem k_bar (hs : isS s) (hq : q < 10) : ckO (wld b d) (b + lBar s q) 0 = some () := ckO_f (lt_bar hs hq) (sh_bar b _ hs hq)
theorem f_wei (hs : isS s) (hq : q < 10) (hi : i < 2) : gR (wld b d) (b + lPil s q i) 5 0 = some (b + lWei s q i) := gR_f (lt_pil hs hq hi) (sh_pil b _ hs hq hi) rfl
theorem f_siz (hs : isS s) (hq : q < 10) (hi : i < 2) : gI (wld b d) (b + lPil s q i) 5 1 = some (d (lPil s q i) 1) := gI_f (lt_pil hs hq hi) (sh_pil b _ hs hq hi) rfl
theorem p_siz {v : Int32} (hs : isS s) (hq : q < 10) (hi : i < 2) : pV (wld b d) (b + lPil s q i) 5 1 (.int v) = some (wld b (du d (lPil s q i) 1 v)) := pV_f (lt_pil hs hq hi) (sh_pil b _ hs hq hi) (Nat.le_of_ble_eq_true rfl) (by rw [sh_pil b _ hs hq hi]; rfl)
theorem k_pil (hs : isS s) (hq : q < 10) (hi : i < 2) : ckO (wld b d) (b + lPil s q i) 5 = some () := ckO_f (lt_pil hs hq hi) (sh_pil b _ hs hq hi)
theorem f_mv (hs : isS s) (hm : m < 10) (hj : j < 4) : gI (wld b d) (b + lMov s m) 4 j = some (d (lMov s m) j) := by
  refine gI_f (lt_mov hs hm) (sh_mov b _ hs hm) ?_
  match j, hj with
  | 0, _ => rfl
  | 1, _ => rfl
  | 2, _ => rfl
  | 3, _ => rfl
theorem p_mv {v : Int32} (hs : isS s) (hm : m < 10) (hj : j < 4) : pV (wld b d) (b + lMov s m) 4 j (.int v) = some (wld b (du d (lMov s m) j v)) := by
  refine pV_f (lt_mov hs hm) (sh_mov b _ hs hm) hj ?_
  rw [sh_mov b _ hs hm]
  match j, hj with
  | 0, _ => rfl
  | 1, _ => rfl
  | 2, _ => rfl
  | 3, _ => rfl
theorem k_mov (hs : isS s) (hm : m < 10) : ckO (wld b d) (b + lMov s m) 4 = some () := ckO_f (lt_mov hs hm) (sh_mov b _ hs hm)
/-! the object itself, the loader, the flight, the crew finder, the model -/
theorem k_top : ckO (wld b d) b 7 = some () := ckO_f (k := 0) (by decide) rfl
theorem f_top (h : j = 0 ∧ i = 1 ∨ j = 1 ∧ i = 74 ∨ j = 3 ∧ i = 75 ∨ j = 4 ∧ i = 79 ∨ j = 5 ∧ i = 91) : gR (wld b d) b 7 j = some (b + i) := by
  rcases h with ⟨rfl, rfl⟩ | ⟨rfl, rfl⟩ | ⟨rfl, rfl⟩ | ⟨rfl, rfl⟩ | ⟨rfl, rfl⟩ <;> exact gR_f (k := 0) (by decide) rfl rfl
theorem f_kept : gI (wld b d) b 7 2 = some (d 0 2) := gI_f (k := 0) (by decide) rfl rfl
theorem p_kept {v : Int32} : pV (wld b d) b 7 2 (.int v) = some (wld b (du d 0 2 v)) := pV_f (k := 0) (by decide) rfl (Nat.le_of_ble_eq_true rfl) rfl
theorem f_img (hj : j < 2) : lR (wld b d) 4 (b + 74) (nI j) = some (b + (97 + 73 * j)) := lR_f (k := 74) (by decide) rfl (by omega) hj (by rw [if_pos hj])
theorem isA_c : isA 76 64 ∧ isA 77 64 ∧ isA 78 4096 ∧ isA 92 10 ∧ isZ 93 10 ∧ isA 94 10 ∧ isA 95 10 ∧ isA 96 10 := ⟨⟨by decide, by decide, fun _ _ => rfl⟩, ⟨by decide, by decide, fun _ _ => rfl⟩, ⟨by decide, by decide, fun _ _ => rfl⟩, ⟨by decide, by decide, fun _ _ => rfl⟩, ⟨by decide, by decide, fun _ _ => rfl⟩, ⟨by decide, by decide, fun _ _ => rfl⟩, ⟨by decide, by decide, fun _ _ => rfl⟩, ⟨by decide, by decide, fun _ _ => rfl⟩⟩
theorem isA_row (hj : j < 10) : isA (81 + j) 301 := by
  refine ⟨by omega, by decide, fun b f => ?_⟩
  unfold shape
  rw [if_neg (by omega), if_neg (by omega), if_neg (by omega), if_neg (by omega), if_neg (by omega), if_neg (by omega), if_neg (by omega), if_neg (by omega), if_pos (by omega)]
theorem isA_m : isA 244 212 ∧ isA 245 424 ∧ isZ 246 2 ∧ isA 247 4096 ∧ isA 248 301 ∧ isA 249 3010 ∧ isA 250 10 ∧ isA 251 10 ∧ isZ 252 1024 ∧ isA 253 1024 ∧ isA 254 10 := ⟨⟨by decide, by decide, fun _ _ => rfl⟩, ⟨by decide, by decide, fun _ _ => rfl⟩, ⟨by decide, by decide, fun _ _ => rfl⟩, ⟨by decide, by decide, fun _ _ => rfl⟩, ⟨by decide, by decide, fun _ _ => rfl⟩, ⟨by decide, by decide, fun _ _ => rfl⟩, ⟨by decide, by decide, fun _ _ => rfl⟩, ⟨by decide, by decide, fun _ _ => rfl⟩, ⟨by decide, by decide, fun _ _ => rfl⟩, ⟨by decide, by decide, fun _ _ => rfl⟩, ⟨by decide, by decide, fun _ _ => rfl⟩⟩
theorem k_ldr : ckO (wld b d) (b + 75) 3 = some () := ckO_f (by decide) rfl
theorem f_ldr (h : j < 3) : gR (wld b d) (b + 75) 3 j = some (b + (76 + j)) := by
  match j, h with
  | 0, _ => exact gR_f (by decide) rfl rfl
  | 1, _ => exact gR_f (by decide) rfl rfl
  | 2, _ => exact gR_f (by decide) rfl rfl
theorem f_ldc (h : j = 3 ∨ j = 4) : gI (wld b d) (b + 75) 3 j = some (d 75 j) := by
  rcases h with rfl | rfl <;> exact gI_f (by decide) rfl rfl
theorem p_ldc {v : Int32} (h : j = 3 ∨ j = 4) : pV (wld b d) (b + 75) 3 j (.int v) = some (wld b (du d 75 j v)) := by
  rcases h with rfl | rfl <;> exact pV_f (by decide) rfl (Nat.le_of_ble_eq_true rfl) rfl
theorem k_flt : ckO (wld b d) (b + 79) 2 = some () := ckO_f (by decide) rfl
theorem f_flt : gR (wld b d) (b + 79) 2 0 = some (b + 80) := gR_f (by decide) rfl rfl
theorem f_hts (hj : j < 10) : lR (wld b d) 5 (b + 80) (nI j) = some (b + (81 + j)) := lR_f (k := 80) (by decide) rfl (by omega) hj (by rw [if_pos hj])
theorem k_crw : ckO (wld b d) (b + 91) 1 = some () := ckO_f (by decide) rfl
theorem f_crw (h : j < 6) (h1 : 1 ≤ j) : gR (wld b d) (b + 91) 1 j = some (b + (91 + j)) := by
  match j, h with
  | 1, _ => exact gR_f (by decide) rfl rfl
  | 2, _ => exact gR_f (by decide) rfl rfl
  | 3, _ => exact gR_f (by decide) rfl rfl
  | 4, _ => exact gR_f (by decide) rfl rfl
  | 5, _ => exact gR_f (by decide) rfl rfl
theorem f_crc (h : j = 0 ∨ j = 6) : gI (wld b d) (b + 91) 1 j = some (d 91 j) := by
  rcases h with rfl | rfl <;> exact gI_f (by decide) rfl rfl
theorem p_crc {v : Int32} (h : j = 0 ∨ j = 6) : pV (wld b d) (b + 91) 1 j (.int v) = some (wld b (du d 91 j v)) := by
  rcases h with rfl | rfl <;> exact pV_f (by decide) rfl (Nat.le_of_ble_eq_true rfl) rfl
theorem k_mod : ckO (wld b d) (b + 243) 8 = some () := ckO_f (by decide) rfl
theorem f_mod (h : j = 0 ∧ i = 244 ∨ j = 1 ∧ i = 245 ∨ j = 2 ∧ i = 246 ∨ j = 3 ∧ i = 247 ∨ j = 5 ∧ i = 248 ∨ j = 6 ∧ i = 249 ∨ j = 7 ∧ i = 250 ∨ j = 8 ∧ i = 251 ∨ j = 10 ∧ i = 252 ∨ j = 11 ∧ i = 253 ∨ j = 12 ∧ i = 254) : gR (wld b d) (b + 243) 8 j = some (b + i) := by
  rcases h with ⟨rfl, rfl⟩ | ⟨rfl, rfl⟩ | ⟨rfl, rfl⟩ | ⟨rfl, rfl⟩ | ⟨rfl, rfl⟩ | ⟨rfl, rfl⟩ | ⟨rfl, rfl⟩ | ⟨rfl, rfl⟩ | ⟨rfl, rfl⟩ | ⟨rfl, rfl⟩ | ⟨rfl, rfl⟩ <;> exact gR_f (by decide) rfl rfl
theorem f_mdc (h : j = 4 ∨ j = 9) : gI (wld b d) (b + 243) 8 j = some (d 243 j) := by
  rcases h with rfl | rfl <;> exact gI_f (by decide) rfl rfl
theorem p_mdc {v : Int32} (h : j = 4 ∨ j = 9) : pV (wld b d) (b + 243) 8 j (.int v) = some (wld b (du d 243 j v)) := by
  rcases h with rfl | rfl <;> exact pV_f (by decide) rfl (Nat.le_of_ble_eq_true rfl) rfl
end FLAT
