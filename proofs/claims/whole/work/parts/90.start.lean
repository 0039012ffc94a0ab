/-- the world at the start: nothing -/
def w0 (b : Nat) : Wo := (b, fun _ => none)
theorem w0_hp (D : va_G) (dA : Nat → ClassId) (H : Heap) : Hp D dA H.size (w0 H.size) H := ⟨rfl, Nat.le_refl _, fun a c h => by cases h⟩
theorem st_arr {s : State} {ty : FieldType} (h : ∃ c k comp, s.vm.findClass ("[" ++ ty.toString) = some c ∧ s.vm.classes[c]? = some k ∧ k.kind = .array comp ty) : ∃ (c : ClassId) (k : Class) (comp : ClassId), s.vm.findClass ("[" ++ ty.toString) = some c ∧ s.vm.classes[c]? = some k ∧ k.kind = .array comp ty := h
set_option maxRecDepth 100000 in
theorem st_K {s : State} {args : Array Value} (hts : ∀ w ∈ lw_tbl, w.before args s = true) : ∃ (D : va_G) (dA : Nat → ClassId), va_K D vwCl (aTs dA) s := by
  obtain ⟨c0, i0, hk0⟩ := u_known (C := RX0) (T := TX0) (N := 3) (n := 3) hts inX0 (hts (.instantiable RX0 3) (List.mem_of_getElem? (i := 71) (by decide +kernel)))
  obtain ⟨c1, i1, hk1⟩ := u_known (C := RX1) (T := TX1) (N := 7) (n := 7) hts inX1 (hts (.instantiable RX1 7) (List.mem_of_getElem? (i := 199) (by decide +kernel)))
  obtain ⟨c2, i2, hk2⟩ := u_known (C := RX2) (T := TX2) (N := 1) (n := 1) hts inX2 (hts (.instantiable RX2 1) (List.mem_of_getElem? (i := 186) (by decide +kernel)))
  obtain ⟨c3, i3, hk3⟩ := u_known (C := RX3) (T := TX3) (N := 5) (n := 5) hts inX3 (hts (.instantiable RX3 5) (List.mem_of_getElem? (i := 164) (by decide +kernel)))
  obtain ⟨c4, i4, hk4⟩ := u_known (C := RX4) (T := TX4) (N := 4) (n := 4) hts inX4 (hts (.instantiable RX4 4) (List.mem_of_getElem? (i := 110) (by decide +kernel)))
  obtain ⟨c5, i5, hk5⟩ := u_known (C := RX5) (T := TX5) (N := 2) (n := 2) hts inX5 (hts (.instantiable RX5 2) (List.mem_of_getElem? (i := 77) (by decide +kernel)))
  obtain ⟨c6, i6, hk6⟩ := u_known (C := RX6) (T := TX6) (N := 4) (n := 4) hts inX6 (hts (.instantiable RX6 4) (List.mem_of_getElem? (i := 62) (by decide +kernel)))
  obtain ⟨c7, i7, hk7⟩ := u_known (C := RX7) (T := TX7) (N := 6) (n := 6) hts inX7 (hts (.instantiable RX7 6) (List.mem_of_getElem? (i := 54) (by decide +kernel)))
  obtain ⟨c8, i8, hk8⟩ := u_known (C := RX8) (T := TX8) (N := 13) (n := 13) hts inX8 (hts (.instantiable RX8 13) (List.mem_of_getElem? (i := 554) (by decide +kernel)))
  have hI := Cond.arrayClass_spec (hts (.arrayClass .int) (List.mem_of_getElem? (i := 92) (by decide +kernel)))
  have hZ := Cond.arrayClass_spec (hts (.arrayClass .boolean) (List.mem_of_getElem? (i := 228) (by decide +kernel)))
  obtain ⟨cp2, d2, k2, p21, -, p23, p24, p25⟩ := Cond.arrayOver_spec (hts (.arrayOver (.object "StageLines$Bar")) (List.mem_of_getElem? (i := 68) (by decide +kernel)))
  obtain ⟨cp3, d3, k3, p31, -, p33, p34, p35⟩ := Cond.arrayOver_spec (hts (.arrayOver (.object "StageLines$Move")) (List.mem_of_getElem? (i := 70) (by decide +kernel)))
  obtain ⟨cp4, d4, k4, p41, -, p43, p44, p45⟩ := Cond.arrayOver_spec (hts (.arrayOver (.object "StageLines$Stage")) (List.mem_of_getElem? (i := 162) (by decide +kernel)))
  obtain ⟨cp5, d5, k5, p51, -, p53, p54, p55⟩ := arrayOver_specB (hts (.arrayOver (.array .int)) (List.mem_of_getElem? (i := 192) (by decide +kernel)))
  obtain ⟨d0, k0, cp0, p01, p02, p03⟩ := st_arr hI
  obtain ⟨d1, k1, cp1, p11, p12, p13⟩ := st_arr hZ
  refine ⟨(fun k => match k with | 0 => c0 | 1 => c1 | 2 => c2 | 3 => c3 | 4 => c4 | 5 => c5 | 6 => c6 | 7 => c7 | _ => c8, fun k => match k with | 0 => i0 | 1 => i1 | 2 => i2 | 3 => i3 | 4 => i4 | 5 => i5 | 6 => i6 | 7 => i7 | _ => i8), (fun k => match k with | 0 => d0 | 1 => d1 | 2 => d2 | 3 => d3 | 4 => d4 | _ => d5), ?_, ?_⟩
  · intro k q hq
    match k, hq with
    | 0, hq => cases hq; exact hk0
    | 1, hq => cases hq; exact hk1
    | 2, hq => cases hq; exact hk2
    | 3, hq => cases hq; exact hk3
    | 4, hq => cases hq; exact hk4
    | 5, hq => cases hq; exact hk5
    | 6, hq => cases hq; exact hk6
    | 7, hq => cases hq; exact hk7
    | 8, hq => cases hq; exact hk8
    | k + 9, hq => simp [vwCl] at hq
  · intro k q hq
    match k, hq with
    | 0, hq => cases hq; exact ⟨fun n z => ⟨fun k h => (by cases h), k0, p02, cp0, p03⟩, p01⟩
    | 1, hq => cases hq; exact ⟨fun n z => ⟨fun k h => (by cases h), k1, p12, cp1, p13⟩, p11⟩
    | 2, hq => cases hq; exact ⟨fun n z => ⟨fun k h => (by cases h), k2, p23, cp2, p24⟩, k2, cp2, p23, p24, p21, p25⟩
    | 3, hq => cases hq; exact ⟨fun n z => ⟨fun k h => (by cases h), k3, p33, cp3, p34⟩, k3, cp3, p33, p34, p31, p35⟩
    | 4, hq => cases hq; exact ⟨fun n z => ⟨fun k h => (by cases h), k4, p43, cp4, p44⟩, k4, cp4, p43, p44, p41, p45⟩
    | 5, hq => cases hq; exact ⟨fun n z => ⟨fun k h => (by cases h), k5, p53, cp5, p54⟩, p55⟩
    | k + 6, hq => simp [aTs] at hq

set_option maxRecDepth 100000 in
theorem st_N {s : State} {args : Array Value} (hts : ∀ w ∈ lw_tbl, w.before args s = true) : Kn s ∧ Ka s := ⟨⟨va_Nw.of rfl (hts (.methodLinkNest "StageLines$Stage" 30 yX0_init "StageLines") (List.mem_of_getElem? (i := 72) (by decide +kernel))), va_Nw.of rfl (hts (.methodLinkNest "StageLines$Bar" 17 yX5_init "StageLines") (List.mem_of_getElem? (i := 78) (by decide +kernel))), va_Nw.of rfl (hts (.methodLinkNest "StageLines$Stage" 31 yX4_init "StageLines") (List.mem_of_getElem? (i := 111) (by decide +kernel))), va_Nw.of rfl (hts (.methodLinkNest "StageLines" 26 yX3_init "StageLines") (List.mem_of_getElem? (i := 165) (by decide +kernel))), va_Nw.of rfl (hts (.methodLinkNest "StageLines" 33 yX2_init "StageLines") (List.mem_of_getElem? (i := 187) (by decide +kernel))), va_Nw.of rfl (hts (.methodLinkNest "StageLines" 40 yX1_init "StageLines") (List.mem_of_getElem? (i := 200) (by decide +kernel)))⟩, va_AO.of (hts (.arrayOver (.object "StageLines$Bar")) (List.mem_of_getElem? (i := 68) (by decide +kernel))), va_AO.of (hts (.arrayOver (.object "StageLines$Move")) (List.mem_of_getElem? (i := 70) (by decide +kernel))), va_AO.of (hts (.arrayOver (.object "StageLines$Stage")) (List.mem_of_getElem? (i := 162) (by decide +kernel))), (hts (.arrayOver (.array .int)) (List.mem_of_getElem? (i := 192) (by decide +kernel)))⟩
set_option maxRecDepth 100000 in
theorem st_Z {s : State} {args : Array Value} (hts : ∀ w ∈ lw_tbl, w.before args s = true) (hgv : (Jvm.Cond.and given_1 narrow_1).before args s = true) : Kz s.heap.size s s.heap := by
  have hs := flat_of_before _ hgv
  have hA : ∀ a : Nat, a < s.heap.size → ¬ Ab s.heap.size a := fun a h h2 => absurd h (Nat.not_lt.mpr h2)
  have harr : (Cond.arrayOf (.static "StageLines" "GREATEST_SETTING" "[I") .int).before args s = true := hs _ (by decide +kernel)
  have hl : (Cond.eq (.length (.static "StageLines" "GREATEST_SETTING" "[I")) (.int 4)).before args s = true := hs _ (by decide +kernel)
  have h0 : (Cond.eq (.elem (.static "StageLines" "GREATEST_SETTING" "[I") (.int 0)) (.int 60)).before args s = true := hs _ (by decide +kernel)
  have h1 : (Cond.eq (.elem (.static "StageLines" "GREATEST_SETTING" "[I") (.int 1)) (.int 40)).before args s = true := hs _ (by decide +kernel)
  have h2 : (Cond.eq (.elem (.static "StageLines" "GREATEST_SETTING" "[I") (.int 2)) (.int 3)).before args s = true := hs _ (by decide +kernel)
  have h3 : (Cond.eq (.elem (.static "StageLines" "GREATEST_SETTING" "[I") (.int 3)) (.int 100)).before args s = true := hs _ (by decide +kernel)
  obtain ⟨t, ht, hT⟩ := va_Tof (N := 4) (f := fun j => .int (gsF j)) (A := Ab s.heap.size) (by decide) harr (va_eqt hl) (fun j hj => by
    match j, hj with
    | 0, _ => exact va_eqt h0
    | 1, _ => exact va_eqt h1
    | 2, _ => exact va_eqt h2
    | 3, _ => exact va_eqt h3
    | j + 4, hj => omega) hA
  exact ⟨t, va_Zref (hts (.laysStatic "StageLines" "GREATEST_SETTING" "[I") (List.mem_of_getElem? (i := 259) (by decide +kernel))) (hts (.initialized "StageLines") (List.mem_of_getElem? (i := 41) (by decide +kernel))) ht hA, hT⟩
/-- from the entry, for every script of at most 2560 ints, the law comes to its end with true -/
theorem whole_start {p : Program} {e : Env} {s : State} {m : MethodId} {below : List Frame} {meth : Method} {c : Code} (l : Launch) (hflags : l.flags = flags0) {b L : Nat} {xs : Nat → Int32} (hL : L ≤ 2560) (C0 : lw_At p s m meth c b L xs) : W p l e room_1 s m #[Value.ref b] below meth c s.heap [] 0 0 (lw_Z below #[Value.ref b] s) (entryFrame m ([Value.ref b] : List Value).toArray 4) := by
  obtain ⟨hx, hb, hr, hml, hown, hts, hX, hbl, hlocks, hgv⟩ := C0
  obtain ⟨D, dA, hK⟩ := st_K hts
  obtain ⟨o, ho⟩ := law_true (s.heap.size) L xs b hL
  have key := L_law_w (X := ((p, l, e, room_1, s, m, #[Value.ref b], below, meth, c), (D, dA, s.heap.size), 4, lw_Z below #[Value.ref b] s)) ⟨hx, hb, hml, rfl, hown, fun w h => hts w (wsL_law_in w h), ⟨hK, (st_N hts).1, (st_N hts).2, st_Z hts hgv⟩, hlocks, rfl, hr, Nat.le_refl _⟩ ⟨hX, hbl, fun h => absurd hbl (Nat.not_lt.mpr h)⟩ ho ⟨rfl, ⟨b, rfl⟩, rfl⟩ s.heap [] _ (w0_hp D dA s.heap) va_S.rf (lv_entry [.ref b] (n := 4) (Nat.le_of_ble_eq_true rfl))
  rw [lg_entry_eq]
  exact key
set_option maxHeartbeats 4000000 in
theorem lw_walk (l : Launch) (hflags : l.flags = flags0) (b : Addr) (xs : List Int32) : MetFree l x (headSpec (Jvm.Cond.code x code maxLocals ret :: tables_1) room_1) (lw_P b xs) (fun _ _ _ _ _ => True) lw_Q := by
  refine MetFree.of_bodyS (code := code) (maxLocals := maxLocals) (ret := ret) (by decide) ?_ ?_
  · intro args s m h hn
    obtain ⟨meth, c, h1, h2, h3, h4, h5, h6, -, -⟩ := Cond.code_spec hn (atoms_spec (ws := Jvm.Cond.code x code maxLocals ret :: tables_1) h _ List.mem_cons_self)
    exact ⟨meth, c, h1, h2, h3, h4, h5, h6⟩
  · intro p e s m args below meth c s₁ B hml0 hP _
    obtain ⟨rfl, hx, hbd, hgv⟩ := hP
    obtain ⟨scr, harrAt, hlist, hof, hsmall⟩ := hx
    obtain ⟨hcb, hkn, -, -⟩ := State.arrayAt?_spec harrAt
    have hown : s.vm.findClass R_law = some m.cls := findClass_of_methodNamed B.named
    have hts0 : ∀ c ∈ (Jvm.Cond.code x code maxLocals ret :: tables_1), c.before #[Value.ref b] s = true := atoms_spec (ws := Jvm.Cond.code x code maxLocals ret :: tables_1) B.pre
    have hts : ∀ w ∈ lw_tbl, w.before #[Value.ref b] s = true := k2_hts_sels lw_privs (fun w hw => hts0 w (List.mem_cons_of_mem _ hw)) lw_privs_ok
    have hml : c.maxLocals = 4 := B.maxLocals_eq (hts0 _ List.mem_cons_self)
    have X₀ : Stand p l e room_1 s m #[Value.ref b] below meth c s₁ [] 0 0 := Stand.of_body B
    have hh0 : s₁.heap = s.heap := by rw [B.state]; rfl
    have hsz : scr.slots.size = xs.length := by rw [← Array.length_toList, hlist, List.length_map]
    have hval : ∀ j : Nat, j < xs.length → scr.slots[j]? = some (.int (xs.getD j 0)) := fun j hj => by
      rw [← Array.getElem?_toList, hlist]
      simp [hj]
    have hbl : b < s.heap.size := (Array.getElem?_eq_some_iff.mp hcb).1
    have hX : va_X b xs.length (fun j => xs.getD j 0) s s.heap := ⟨scr, hcb, hof, hkn, hsz, hval⟩
    have K : W p l e room_1 s m #[Value.ref b] below meth c s₁.heap [] 0 0 (lw_Z below #[Value.ref b] s) (entryFrame m ([Value.ref b] : List Value).toArray 4) := by
      rw [hh0]
      exact whole_start l hflags hbd ⟨B.exec, B.bytes, B.returns, hml, hown, hts, hX, hbl, B.notSynchronized, hgv⟩
    obtain ⟨t, a1, o, b1, b2, b3⟩ := K s₁ rfl X₀
    exact ⟨t, o, a1, b1, b2, b3⟩
theorem lw_pre_spec {args : Array Value} {s : State} (h : (Jvm.Cond.and given_1 narrow_1).before args s = true) (hr : rest_1_c.before args s = true) : ∃ (b : Addr) (xs : List Int32), lw_P b xs args s := by
  have hs := flat_of_before _ h
  have hq := flat_of_before _ hr
  have hc : (Cond.count 1).before args s = true := hs _ (by decide +kernel)
  have harr : (Cond.arrayOf (.arg 0) .int).before args s = true := hs _ (by decide +kernel)
  have hle : (Cond.le (.length (.arg 0)) (.int 2560)).before args s = true := hs _ (by decide +kernel)
  have hlen : (Cond.isInt (.length (.arg 0))).before args s = true := hq _ (by decide +kernel)
  have hall : (Cond.all (.arg 0) (.isInt (.elem (.arg 0) (.index 0)))).before args s = true := hq _ (by decide +kernel)
  obtain ⟨b, xs, hb, hx⟩ := State.ints_of_pre rfl harr hlen hall
  have hsm : xs.length < 2 ^ 31 := hx.choose_spec.2.2.2
  have hev : (Term.length (.arg 0)).eval args s none [] s = some (.int xs.length.toInt32) := hx.length_eval hb
  have hv := Cond.le_ints hev (show (Term.int 2560).eval args s none [] s = some (.int 2560) from rfl)
  have hd : xs.length.toInt32 ≤ 2560 := by
    simpa [Cond.before, Cond.holds, hv] using hle
  have hN : xs.length ≤ 2560 := (Int32.ofNat_le_ofNat hsm (by decide)).mp (show Int32.ofNat xs.length ≤ Int32.ofNat 2560 from hd)
  exact ⟨b, xs, Cond.one_arg hc (show args[0]? = some (.ref b) from hb), hx, hN, h⟩
theorem lw_comes (l : Launch) (hflags : l.flags = flags0) : Comes l x (Jvm.Cond.code x code maxLocals ret :: tables_1) room_1 (fun tb e args s => Calls_1 tb e args s ∧ rest_1 tb e args s ∧ Pre_1 tb e args s)
    (fun _ _ args s o t => lw_Q args s o t) := by
  intro p e ha hc hk s m args below hf hfit hheap happ hpre
  obtain ⟨b, xs, hP⟩ := lw_pre_spec hpre.2.2 hpre.2.1
  obtain ⟨k, o, h1, h2, h3, hQ⟩ := lw_walk l hflags b xs p e ha hc hk s m args below hf ((Spec.applies_iff_loose hf).mp happ).1 hP trivial
  exact ⟨k, o, h1, h2, h3, hQ⟩
theorem lw_frame {s t : State} {o : Outcome} {args : Array Value} (h : Framed s o t [] 600000 7302250) :
    Framed s o t (fieldLocs frame_1_writes args s ++ arrayLocs frame_1_arrays args s ++ staticLocs frame_1_statics s) 600000 7302250 := h
theorem lw_limb (L : Cond) (hL : ∀ (args : Array Value) (s t : State), L.after args s (.returned (some (.int 1))) t = true) :
    ArmFor flags0 classFile x code maxLocals ret World_1 tables_1 room_1 Calls_1 rest_1 Pre_1
      (fun tb e a s o t => postC L tb e a s o t ∧ Framed s o t (fieldLocs frame_1_writes a s ++ arrayLocs frame_1_arrays a s ++ staticLocs frame_1_statics s) 600000 7302250) := by
  intro l hflags _ _ p e ha hc hk s m args below hf hfit hheap happ hpre
  obtain ⟨k, o, h1, h2, h3, rfl, hF⟩ := lw_comes l hflags p e ha hc hk s m args below hf hfit hheap happ hpre
  exact ⟨k, _, h1, h2, h3, hL args s _, lw_frame hF⟩
theorem i_vc : Claimed_1_1 ∧ Claimed_1_2 := ⟨lw_limb limb_1_1 (fun args s t => by simp [limb_1_1, Cond.after, Cond.holds, Cond.value]), lw_limb limb_1_2 (fun args s t => Cond.after_iff.mpr (by
  first | (rw [show limb_1_2 = Cond.eq .result (.int 1) from rfl, Cond.eq_ints (x := 1) (y := 1) rfl rfl]; simp; done) | (simp [limb_1_2, Cond.value, Term.eval]; done)))⟩

