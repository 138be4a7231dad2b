/-! THE JDK's OWN METHODS over doubles and floats that are no NaN: bits, abs, floor, as one row each (by the library's contracts of Double.isNaN, Float.isNaN, Math.abs, Math.floor) -/
abbrev vd_AD (A : Nat → Prop) (U : State) (H : Heap) : Prop := va_Z "java/lang/StrictMath" "$assertionsDisabled" "Z" (.int 1) A U H
theorem vd_Zs {A : Nat → Prop} {U : State} {H : Heap} (h : vd_AD A U H) (hH : U.heap = H) : Jvm.Lib.Cold.StaticIs U "java/lang/StrictMath" "$assertionsDisabled" "Z" (.int 1) := by
  obtain ⟨cf, kf, fi, f, a, cell, h1, h2, h3, h4, h5, h6, h7, _⟩ := h
  exact ⟨cf, fi, kf, f, a, cell, h1, h2, h3, h4, by rw [hH]; exact h5, fun q => (by rw [q] at h6; cases h6), h7⟩
section VDJ
variable {p : Program} {l : Launch} {e : Env} {R : Room} {s : State} {m : MethodId} {args : Array Value} {below : List Frame} {meth : Method} {c : Code} {H : Heap} {locs : List Loc} {cells slots : Nat} {Q : State → Prop}
variable {pc : Nat} {ls : Array Slot} {rest : List Value} {cc : ByteArray}
/-- a static call that changes nothing -/
theorem vd_pure {y : MethodName} {own : String} {index : Nat} {bytes : ByteArray} {maxL : Nat} {ret : Option FieldType} {av : List Value} {r : Value} {Pre : Jvm.Free.Pt → Array Value → Prop} {Post : Jvm.Free.Pt → Array Value → Option Value → Jvm.Free.Pt → Prop}
    (hexec : p.tables.exec = Jvm.exec) (hb : c.code = cc) (hml : c.maxLocals = ls.size) (hown : s.vm.findClass own = some m.cls) (hlink : (Cond.methodLink own index y).before args s = true) (hstat : (Cond.static y).before args s = true) (hinit : (Cond.initialized y.cls).before args s = true) (hcode : (Cond.code y bytes maxL ret).before args s = true) (hy : y.cls ≠ "java/lang/invoke/MethodHandle" ∧ y.cls ≠ "java/lang/invoke/VarHandle")
    (hK : Jvm.Free.Back l R p e below s args y 3 8 Pre Post) (hlen : ∀ sig, parseMethodDescriptor y.desc = some sig → av.length = sig.parameters.length) (hrest : (rest.map fun v => v.category).sum ≤ 8) (hdg : decode cc pc = .ok (.invokestatic index, 3))
    (hpre : ∀ (T : State) (vm₁ : Vm), T.heap = H → s.WarmedH vm₁ → Pre (T.setVm vm₁, locs, cells, slots) av.toArray)
    (hpost : ∀ (A B : Jvm.Free.Pt) (v : Option Value), Pre A av.toArray → Post A av.toArray v B → v = some r ∧ Jvm.Free.pureAt A B)
    (k : W p l e R s m args below meth c H locs cells slots Q (F0 m (pc + 3) ls (r :: rest))) : W p l e R s m args below meth c H locs cells slots Q (F0 m pc ls (av.reverse ++ rest)) := by
  intro T hT X
  obtain ⟨v, vm₁, ⟨U', l2, c2, s2⟩, hW₁, X', hp, st⟩ := callS X hexec (bytes := bytes) (maxL := maxL) (ret := ret) hown hlink hstat hinit hcode hy hK (g := F0 m pc ls (av.reverse ++ rest)) rfl hml.symm (argsL := av) (rest := rest) hlen rfl (by show 2 * 0 + _ ≤ 8; omega) (by rw [hb]; exact hdg) (fun vm₁ hW => hpre T vm₁ hT hW)
  obtain ⟨hv, h1, h2, h3, h4⟩ := hpost _ _ _ (hpre T vm₁ hT hW₁) hp
  dsimp only [Jvm.Free.Pt.U, Jvm.Free.Pt.locs, Jvm.Free.Pt.cells, Jvm.Free.Pt.slots] at X' h1 h2 h3 h4 st
  subst hv h2 h3 h4
  obtain ⟨t, a, b⟩ := k U' (by rw [h1]; exact hT) X'
  exact ⟨t, st t a, b⟩
theorem vd_floor {own : String} {index : Nat} (hexec : p.tables.exec = Jvm.exec) (hb : c.code = cc) (hml : c.maxLocals = ls.size) (hown : s.vm.findClass own = some m.cls) (hlink : (Cond.methodLink own index Jvm.Free.Hsc.MFloorA.yN).before args s = true) (hstat : (Cond.static Jvm.Free.Hsc.MFloorA.yN).before args s = true) (hinit : (Cond.initialized "java/lang/Math").before args s = true) (htab : Jvm.Free.Hsc.MFloorA.tab.before args s = true)
    {A : Nat → Prop} (hZ : vd_AD A s H) (hfr : 5 ≤ R.frames) (hlo : 1300 ≤ R.locals) (hc : cells ≤ R.cells) (hs : slots ≤ R.slots) {x : UInt64} (hx : Jvm.Free.Fl.NoNaN64 x) (hrest : (rest.map fun v => v.category).sum ≤ 8) (hdg : decode cc pc = .ok (.invokestatic index, 3))
    (k : W p l e R s m args below meth c H locs cells slots Q (F0 m (pc + 3) ls (.double (Jvm.Free.Hsc.floorOf x) :: rest))) : W p l e R s m args below meth c H locs cells slots Q (F0 m pc ls (.double x :: rest)) := by
  have hcode : (Cond.code Jvm.Free.Hsc.MFloorA.yN Jvm.Free.Hsc.MFloorA.yB 2 (some .double)).before args s = true := by
    have h := htab
    simp only [Jvm.Free.Hsc.MFloorA.tab, Cond.before_and, Bool.and_eq_true] at h
    exact h.1
  refine vd_pure (av := [.double x]) hexec hb hml hown hlink hstat hinit hcode (by decide) (Jvm.Free.Hsc.MFloorA.pays htab hfr (by omega)) (fun sig hs => ?_) hrest hdg (fun T vm₁ hT hW => ⟨hc, hs, x, rfl, hx, ?_⟩) (fun A' B v hp hq => ?_) k
  · rw [show parseMethodDescriptor Jvm.Free.Hsc.MFloorA.yN.desc = some ⟨[.double], some .double⟩ from by decide +kernel] at hs
    rw [← Option.some.inj hs]
    rfl
  · exact vd_Zs (va_Z.moved (U := T.setVm vm₁) hW.alike hZ) hT
  · obtain ⟨_, _, g, hg, hn, hz⟩ := hp
    have e9 : (#[Value.double x] : Array Value) = #[.double g] := hg
    simp at e9
    subst e9
    exact ⟨hq.2 x ⟨hg, hn, hz⟩, hq.1⟩
theorem vd_abs {own : String} {index : Nat} {bytes : ByteArray} (hexec : p.tables.exec = Jvm.exec) (hb : c.code = cc) (hml : c.maxLocals = ls.size) (hown : s.vm.findClass own = some m.cls) (hlink : (Cond.methodLink own index Jvm.Free.NT.mathAbs64N).before args s = true) (hstat : (Cond.static Jvm.Free.NT.mathAbs64N).before args s = true) (hinit : (Cond.initialized "java/lang/Math").before args s = true) (hcode : (Cond.code Jvm.Free.NT.mathAbs64N bytes 2 (some .double)).before args s = true)
    (hfr : 1 ≤ R.frames) (hlo : 100 ≤ R.locals) {x : UInt64} (hx : Jvm.Free.Fl.NoNaN64 x) (hrest : (rest.map fun v => v.category).sum ≤ 8) (hdg : decode cc pc = .ok (.invokestatic index, 3))
    (k : W p l e R s m args below meth c H locs cells slots Q (F0 m (pc + 3) ls (.double (x &&& 0x7fffffffffffffff) :: rest))) : W p l e R s m args below meth c H locs cells slots Q (F0 m pc ls (.double x :: rest)) := by
  refine vd_pure (av := [.double x]) hexec hb hml hown hlink hstat hinit hcode (by decide) (Jvm.Free.NT.Abs64.pays hcode hstat hfr (by omega)) (fun sig hs => ?_) hrest hdg (fun T vm₁ hT hW => ⟨x, rfl, hx⟩) (fun A' B v hp hq => ?_) k
  · rw [show parseMethodDescriptor Jvm.Free.NT.mathAbs64N.desc = some ⟨[.double], some .double⟩ from by decide +kernel] at hs
    rw [← Option.some.inj hs]
    rfl
  · obtain ⟨g, hg, hn⟩ := hp
    have e9 : (#[Value.double x] : Array Value) = #[.double g] := hg
    simp at e9
    subst e9
    obtain ⟨rfl, h2⟩ := hq
    exact ⟨h2 x ⟨hg, hn⟩, rfl, rfl, rfl, rfl⟩
end VDJ
