def R_law : String := "StageLinesLaw"
def lw_P (b : Addr) (xs : List Int32) (args : Array Value) (s : State) : Prop := args = #[.ref b] ∧ s.IntsAt b xs ∧ xs.length ≤ 2560 ∧ (Jvm.Cond.and given_1 narrow_1).before args s = true
def lw_Q (_ : Array Value) (s : State) (o : Outcome) (t : State) : Prop := o = .returned (some (.int 1)) ∧ Framed s o t [] 600000 7302250
def lw_Z (below : List Frame) (a : Array Value) (s : State) : State → Prop := fun t => ∃ o, t.status = .running ∧ Ended t below o ∧ lw_Q a s o t
/-- the law's own end, with 1 on the stack, nothing written that was there before, its room as the claim has it -/
theorem lw_ret {p : Program} {l : Launch} {e : Env} {s : State} {m : MethodId} {below : List Frame} {meth : Method} {c : Code} {b : Nat} (hx : p.tables.exec = Jvm.exec) (hb : c.code = code) (hr : meth.sig.returnType = ret) (hlocks : meth.locks = false) {pc : Nat} {H : Heap} {ls : Array Slot} (hdg : decode code pc = .ok (.ireturn, 1)) : W p l e room_1 s m #[Value.ref b] below meth c H [] 600000 7302250 (lw_Z below #[Value.ref b] s) (F0 m pc ls [.int 1]) := by
  intro T hT X
  obtain ⟨fs, hret, hrun, hended, hW, hframe⟩ := X.leave (v := some (.int 1)) (hlocks := hlocks) (fun h => by rw [hr] at h; cases h)
  have hmeth' : T.vm.method? m = some meth := X.method'
  refine ⟨T.setFrames fs, ?_, .returned (some (.int 1)), hrun, hended, rfl, ⟨_, rfl⟩, hW, hframe⟩
  jvm_step X.here [X.here.top, hx, hb, hdg, hmeth', hr, ret, narrow_b1]
  (try refine ⟨rfl, ?_⟩); (try refine ⟨rfl, ?_⟩)
  first | (intro acts; rw [hret _ acts rfl rfl rfl]) | rw [hret _ _ rfl rfl rfl]
  exact Steps.refl _
/-- what holds at the law's entry: the machine, the code, the tables' words (any of lw_tbl by 'hts w (by decide +kernel)'), the script of L ints xs at the cell b, what the Statement gives of the start (any of its parts by flat_of_before) -/
def lw_At (p : Program) (s : State) (m : MethodId) (meth : Method) (c : Code) (b L : Nat) (xs : Nat → Int32) : Prop :=
  p.tables.exec = Jvm.exec ∧ c.code = code ∧ meth.sig.returnType = ret ∧ c.maxLocals = 4 ∧ s.vm.findClass R_law = some m.cls ∧ (∀ w ∈ lw_tbl, w.before #[Value.ref b] s = true) ∧ va_X b L xs s s.heap ∧ b < s.heap.size ∧ meth.locks = false ∧ (Jvm.Cond.and given_1 narrow_1).before #[Value.ref b] s = true
/-! the law's own rows -/
def lX (X : Cx) (a L : Nat) (xs : Nat → Int32) : Prop := va_X a L xs (xS X) (xS X).heap ∧ a < (xS X).heap.size ∧ ¬ Ab (xB X) a
def ldX (L : Nat) (xs : Nat → Int32) (i : Int32) : Option Int32 := if 0 ≤ i ∧ i.toNatClampNeg < L then some (xs i.toNatClampNeg) else none
def Ql (X : Cx) : Prop := xQ X = lw_Z (xW X) (xG X) (xS X) ∧ (∃ b : Nat, xG X = #[Value.ref b]) ∧ xB X = (xS X).heap.size
section GL
variable {X : Cx} {y : MethodName} {cc : ByteArray} {Ts : List Cond} {nL : Nat} {ret0 : Option FieldType} {R : Room} {k n pc a L : Nat} {xs : Nat → Int32} {M M' : Wo} {lv lv' : List (Nat × Value)} {st : List Value}
theorem pt_sld (G : Gd X y cc Ts nL ret0 R) (hX : lX X a L xs) {i v : Int32} (hv : ldX L xs i = some v) (hd : decode cc pc = .ok (.iaload, 1)) (kk : Pt X k n (pc + 1) M lv (.int v :: st)) : Pt X k n pc M lv (.int i :: .ref a :: st) := by
  intro H locs ls hH hS hh
  unfold ldX at hv
  split at hv
  · rename_i hc
    cases hv
    exact va_sld G.x G.b hX.1 hX.2.1 hX.2.2 hS (vin_of hc.1 hc.2) hd (kk H locs ls hH hS hh)
  · cases hv
theorem pt_slen (G : Gd X y cc Ts nL ret0 R) (hX : lX X a L xs) (hd : decode cc pc = .ok (.arraylength, 1)) (kk : Pt X k n (pc + 1) M lv (.int (Int32.ofNat L) :: st)) : Pt X k n pc M lv (.ref a :: st) := fun H locs ls hH hS hh =>
  va_slen G.x G.b hX.1 hX.2.1 hX.2.2 hS hd (kk H locs ls hH hS hh)
end GL
theorem pt_lret {X : Cx} {k n pc : Nat} {M : Wo} {lv : List (Nat × Value)} (G : Gd X yL_law cL_law wsL_law 4 (some .boolean) room_1) (hQ : Ql X) (hk : k ≤ 600000) (hn : n ≤ 7302250) (hd : decode cL_law pc = .ok (.ireturn, 1)) : Pt X k n pc M lv [.int 1] := by
  intro H locs ls hH hS hh
  obtain ⟨⟨p, l, e, R, s, m, args, below, meth, c⟩, ⟨D, dA, b0⟩, nL, Q⟩ := X
  have h1 : R = room_1 := G.r
  obtain ⟨hq, ⟨b, hb⟩, hB⟩ := hQ
  have h2 : args = #[Value.ref b] := hb
  have h3 : Q = lw_Z below args s := hq
  have h4 : b0 = s.heap.size := hB
  subst h1
  subst h2
  subst h3
  subst h4
  refine va_forget (fun q h => hS.2.2 q h) ?_
  refine W.widen (k := 600000) (n := 7302250) hk hn ?_
  exact lw_ret G.x G.b G.t G.l hd
