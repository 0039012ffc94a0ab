/-! MY WORLD: cells by address; every contract speaks of the whole world, before and behind. -/
abbrev Ce : Type := (Nat × Nat × (Nat → Int32)) ⊕ ((Nat × Nat × (Nat → Option Nat)) ⊕ (Nat × List Value))
abbrev Wo : Type := Nat × (Nat → Option Ce)
def toE (dA : Nat → ClassId) (c : Ce) : va_E := match c with
  | .inl q => .inl (dA q.1, q.2.1, .inl q.2.2)
  | .inr (.inl q) => .inl (dA q.1, q.2.1, .inr (.inr (.inr (.inr q.2.2))))
  | .inr (.inr o) => .inr o
abbrev aTs (dA : Nat → ClassId) : List (ClassId × FieldType) := [(dA 0, .int), (dA 1, .boolean), (dA 2, .object "StageLines$Bar"), (dA 3, .object "StageLines$Move"), (dA 4, .object "StageLines$Stage"), (dA 5, .array .int)]
def Ab (b : Nat) : Nat → Prop := fun q => b ≤ q
def Hp (D : va_G) (dA : Nat → ClassId) (b : Nat) (M : Wo) (H : Heap) : Prop := H.size = M.1 ∧ b ≤ M.1 ∧ ∀ (a : Nat) (c : Ce), M.2 a = some c → b ≤ a ∧ va_at D vwCl (a, toE dA c) H
def wu (M : Wo) (a : Nat) (c : Ce) : Wo := (M.1, va_up M.2 a (some c))
def wn (M : Wo) (c : Ce) : Wo := (M.1 + 1, va_up M.2 M.1 (some c))
theorem Hp.lt {D : va_G} {dA : Nat → ClassId} {b : Nat} {M : Wo} {H : Heap} (h : Hp D dA b M H) {a : Nat} {c : Ce} (ha : M.2 a = some c) : a < M.1 := by
  have h1 := (h.2.2 a c ha).2.lt
  rw [h.1] at h1
  exact h1
theorem Hp.upd {D : va_G} {dA : Nat → ClassId} {b : Nat} {M : Wo} {H H1 : Heap} (h : Hp D dA b M H) {a : Nat} {c : Ce} (hb : b ≤ a) (hz : H1.size = H.size) (ho : ∀ q : Nat, q ≠ a → H1[q]? = H[q]?) (he : va_at D vwCl (a, toE dA c) H1) : Hp D dA b (wu M a c) H1 := by
  refine ⟨hz.trans h.1, h.2.1, fun a' c' h' => ?_⟩
  by_cases e : a' = a
  · subst e
    simp only [wu, va_up, if_true] at h'
    cases h'
    exact ⟨hb, he⟩
  · simp only [wu, va_up, if_neg e] at h'
    exact ⟨(h.2.2 a' c' h').1, (h.2.2 a' c' h').2.kept (ho a' e)⟩
theorem Hp.new {D : va_G} {dA : Nat → ClassId} {b : Nat} {M : Wo} {H H1 : Heap} (h : Hp D dA b M H) {c : Ce} (hz : H1.size = H.size + 1) (ho : ∀ q : Nat, q < H.size → H1[q]? = H[q]?) (he : va_at D vwCl (M.1, toE dA c) H1) : Hp D dA b (wn M c) H1 := by
  refine ⟨by rw [hz, h.1]; rfl, Nat.le_succ_of_le h.2.1, fun a' c' h' => ?_⟩
  by_cases e : a' = M.1
  · subst e
    simp only [wn, va_up, if_true] at h'
    cases h'
    exact ⟨h.2.1, he⟩
  · simp only [wn, va_up, if_neg e] at h'
    exact ⟨(h.2.2 a' c' h').1, (h.2.2 a' c' h').2.kept (ho a' (by rw [h.1]; exact h.lt h'))⟩
theorem Hp.one {D : va_G} {dA : Nat → ClassId} {b : Nat} {M : Wo} {H : Heap} (h : Hp D dA b M H) {a : Nat} {c : Ce} (ha : M.2 a = some c) : va_P D vwCl [(a, toE dA c)] H := by
  intro k q hk
  have hk0 : k < 1 := (List.getElem?_eq_some_iff.mp hk).1
  rw [show k = 0 by omega] at hk
  cases hk
  exact (h.2.2 a c ha).2
/-! WHAT THE DENOTATIONS ARE MADE OF -/
def gV (M : Wo) (a ci k : Nat) : Option Value := match M.2 a with
  | some (.inr (.inr o)) => if o.1 = ci then o.2[k]? else none
  | _ => none
def gI (M : Wo) (a ci k : Nat) : Option Int32 := match gV M a ci k with
  | some (.int x) => some x
  | _ => none
def gR (M : Wo) (a ci k : Nat) : Option Nat := match gV M a ci k with
  | some (.ref x) => some x
  | _ => none
def pV (M : Wo) (a ci k : Nat) (v : Value) : Option Wo := match M.2 a with
  | some (.inr (.inr o)) => if o.1 = ci ∧ k < o.2.length then some (wu M a (.inr (.inr (ci, o.2.set k v)))) else none
  | _ => none
def lA (M : Wo) (kd a : Nat) (i : Int32) : Option Int32 := match M.2 a with
  | some (.inl q) => if q.1 = kd ∧ 0 ≤ i ∧ i.toNatClampNeg < q.2.1 then some (q.2.2 i.toNatClampNeg) else none
  | _ => none
def sA (M : Wo) (a : Nat) (i v : Int32) : Option Wo := match M.2 a with
  | some (.inl q) => if q.1 = 0 ∧ 0 ≤ i ∧ i.toNatClampNeg < q.2.1 then some (wu M a (.inl (0, q.2.1, va_up q.2.2 i.toNatClampNeg v))) else none
  | _ => none
def sZ (M : Wo) (a : Nat) (i v : Int32) : Option Wo := match M.2 a with
  | some (.inl q) => if q.1 = 1 ∧ 0 ≤ i ∧ i.toNatClampNeg < q.2.1 then some (wu M a (.inl (1, q.2.1, va_up q.2.2 i.toNatClampNeg (vp_nar .boolean v)))) else none
  | _ => none
def lR (M : Wo) (kd a : Nat) (i : Int32) : Option Nat := match M.2 a with
  | some (.inr (.inl q)) => if q.1 = kd ∧ 0 ≤ i ∧ i.toNatClampNeg < q.2.1 then q.2.2 i.toNatClampNeg else none
  | _ => none
def sR (M : Wo) (kd ci a : Nat) (i : Int32) (v : Nat) : Option Wo := match M.2 a, M.2 v with
  | some (.inr (.inl q)), some (.inr (.inr o)) => if o.1 = ci ∧ q.1 = kd ∧ 0 ≤ i ∧ i.toNatClampNeg < q.2.1 then some (wu M a (.inr (.inl (kd, q.2.1, va_up q.2.2 i.toNatClampNeg (some v))))) else none
  | _, _ => none
def aL (M : Wo) (a : Nat) : Option Int32 := match M.2 a with
  | some (.inl q) => if q.1 = 0 then some (Int32.ofNat q.2.1) else none
  | _ => none
def cpI (M : Wo) (a0 : Nat) (sp : Int32) (a : Nat) (dp n : Int32) : Option Wo := match M.2 a0, M.2 a with
  | some (.inl q0), some (.inl q) => if q0.1 = 0 ∧ q.1 = 0 ∧ 0 ≤ sp ∧ 0 ≤ dp ∧ 0 ≤ n ∧ sp.toNatClampNeg + n.toNatClampNeg ≤ q0.2.1 ∧ dp.toNatClampNeg + n.toNatClampNeg ≤ q.2.1 then some (wu M a (.inl (0, q.2.1, va_cpy q0.2.2 q.2.2 sp.toNatClampNeg dp.toNatClampNeg n.toNatClampNeg))) else none
  | _, _ => none
def ckO (M : Wo) (a ci : Nat) : Option Unit := match M.2 a with
  | some (.inr (.inr o)) => if o.1 = ci then some () else none
  | _ => none
def ckB (v : Int32) : Option Unit := if v = 0 ∨ v = 1 then some () else none
def gsF (j : Nat) : Int32 := if j = 0 then 60 else if j = 1 then 40 else if j = 2 then 3 else 100
def ldS (i : Int32) : Option Int32 := if 0 ≤ i ∧ i.toNatClampNeg < 4 then some (gsF i.toNatClampNeg) else none
def iAbs (x : Int32) : Int32 := if 0 ≤ x then x else 0 - x
def iMax (x y : Int32) : Int32 := if x < y then y else x
def iMin (x y : Int32) : Int32 := if y < x then y else x
def wloop {S E : Type} (step : S → Option (S ⊕ E)) : Nat → S → Option E
  | 0, _ => none
  | n + 1, s => match step s with
    | none => none
    | some (.inl s') => wloop step n s'
    | some (.inr e) => some e
def FU : Nat := 1000000000000000000000
theorem bnd {α β : Type} {x : Option α} {f : α → Option β} {o : β} (h : x.bind f = some o) : ∃ a, x = some a ∧ f a = some o := by
  cases x with
  | none => cases h
  | some a => exact ⟨a, rfl, h⟩
theorem ifp {α : Type} {c : Prop} [Decidable c] {x y z : α} (hc : c) (h : (if c then x else y) = z) : x = z := by rw [if_pos hc] at h; exact h
theorem ifn {α : Type} {c : Prop} [Decidable c] {x y z : α} (hc : ¬ c) (h : (if c then x else y) = z) : y = z := by rw [if_neg hc] at h; exact h
theorem wl_ind {S E : Type} {step : S → Option (S ⊕ E)} {P : S → Prop} {Z : E → Prop} (hb : ∀ s x, step s = some x → (∀ s', x = .inl s' → P s') → (∀ e, x = .inr e → Z e) → P s) : ∀ n s e, wloop step n s = some e → Z e → P s := by
  intro n
  induction n with
  | zero => intro s e h _; cases h
  | succ n ih =>
    intro s e h hz
    cases hs : step s with
    | none => simp only [wloop, hs] at h; cases h
    | some x =>
      simp only [wloop, hs] at h
      refine hb s x hs (fun s' hx => ?_) (fun e' hx => ?_)
      · subst hx
        exact ih s' e h hz
      · subst hx
        cases h
        exact hz
