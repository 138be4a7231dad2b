section
/-! THE JDK's OWN METHODS over doubles and floats that are no NaN: bits, abs, floor, as one row each (by the library's contracts of Double.isNaN, Float.isNaN, Math.abs, Math.floor) -/
abbrev vd_AD (A : Nat → Prop) (U : State) (H : Heap) : Prop := va_Z "java/lang/StrictMath" "$assertionsDisabled" "Z" (.int 1) A U H
theorem vd_Zs {A : Nat → Prop} {U : State} {H : Heap} (h : vd_AD A U H) (hH : U.heap = H) : Jvm.Lib.Cold.StaticIs U "java/lang/StrictMath" "$assertionsDisabled" "Z" (.int 1) := by
  obtain ⟨cf, kf, fi, f, a, cell, h1, h2, h3, h4, h5, h6, h7, _⟩ := h
  exact ⟨cf, fi, kf, f, a, cell, h1, h2, h3, h4, by rw [hH]; exact h5, fun q => (by rw [q] at h6; cases h6), h7⟩
section VDJ
variable {p : Program} {l : Launch} {e : Env} {R : Room} {s : State} {m : MethodId} {args : Array Value} {below : List Frame} {meth : Method} {c : Code} {H : Heap} {locs : List Loc} {cells slots : Nat} {Q : State → Prop}
variable {pc : Nat} {ls : Array Slot} {rest : List Value} {cc : ByteArray}
/-- a static call that changes nothing -/
theorem vd_pure {y : MethodName} {own : String} {index : Nat} {bytes : ByteArray} {maxL : Nat} {ret : Option FieldType} {av : List Value} {r : Value} {Pre : Jvm.Free.Pt → Array Value → Prop} {Post : Jvm.Free.Pt → Array Value → Option Value → Jvm.Free.Pt → Prop}
    (hexec : p.tables.exec = Jvm.exec) (hb : c.code = cc) (hml : c.maxLocals = ls.size) (hown : s.vm.findClass own = some m.cls) (hlink : (Cond.methodLink own index y).before args s = true) (hstat : (Cond.static y).before args s = true) (hinit : (Cond.initialized y.cls).before args s = true) (hcode : (Cond.code y bytes maxL ret).before args s = true) (hy : y.cls ≠ "java/lang/invoke/MethodHandle" ∧ y.cls ≠ "java/lang/invoke/VarHandle")
    (hK : Jvm.Free.Back l R p e below s args y 3 8 Pre Post) (hlen : ∀ sig, parseMethodDescriptor y.desc = some sig → av.length = sig.parameters.length) (hrest : (rest.map fun v => v.category).sum ≤ 8) (hdg : decode cc pc = .ok (.invokestatic index, 3))
    (hpre : ∀ (T : State) (vm₁ : Vm), T.heap = H → s.WarmedH vm₁ → Pre (T.setVm vm₁, locs, cells, slots) av.toArray)
    (hpost : ∀ (A B : Jvm.Free.Pt) (v : Option Value), Pre A av.toArray → Post A av.toArray v B → v = some r ∧ Jvm.Free.pureAt A B)
    (k : W p l e R s m args below meth c H locs cells slots Q (F0 m (pc + 3) ls (r :: rest))) : W p l e R s m args below meth c H locs cells slots Q (F0 m pc ls (av.reverse ++ rest)) := by
  intro T hT X
  obtain ⟨v, vm₁, ⟨U', l2, c2, s2⟩, hW₁, X', hp, st⟩ := callS X hexec (bytes := bytes) (maxL := maxL) (ret := ret) hown hlink hstat hinit hcode hy hK (g := F0 m pc ls (av.reverse ++ rest)) rfl hml.symm (argsL := av) (rest := rest) hlen rfl (by show 2 * 0 + _ ≤ 8; omega) (by rw [hb]; exact hdg) (fun vm₁ hW => hpre T vm₁ hT hW)
  obtain ⟨hv, h1, h2, h3, h4⟩ := hpost _ _ _ (hpre T vm₁ hT hW₁) hp
  dsimp only [Jvm.Free.Pt.U, Jvm.Free.Pt.locs, Jvm.Free.Pt.cells, Jvm.Free.Pt.slots] at X' h1 h2 h3 h4 st
  subst hv h2 h3 h4
  obtain ⟨t, a, b⟩ := k U' (by rw [h1]; exact hT) X'
  exact ⟨t, st t a, b⟩
theorem vd_floor {own : String} {index : Nat} (hexec : p.tables.exec = Jvm.exec) (hb : c.code = cc) (hml : c.maxLocals = ls.size) (hown : s.vm.findClass own = some m.cls) (hlink : (Cond.methodLink own index Jvm.Free.Hsc.MFloorA.yN).before args s = true) (hstat : (Cond.static Jvm.Free.Hsc.MFloorA.yN).before args s = true) (hinit : (Cond.initialized "java/lang/Math").before args s = true) (htab : Jvm.Free.Hsc.MFloorA.tab.before args s = true)
    {A : Nat → Prop} (hZ : vd_AD A s H) (hfr : 5 ≤ R.frames) (hlo : 1300 ≤ R.locals) (hc : cells ≤ R.cells) (hs : slots ≤ R.slots) {x : UInt64} (hx : Jvm.Free.Fl.NoNaN64 x) (hrest : (rest.map fun v => v.category).sum ≤ 8) (hdg : decode cc pc = .ok (.invokestatic index, 3))
    (k : W p l e R s m args below meth c H locs cells slots Q (F0 m (pc + 3) ls (.double (Jvm.Free.Hsc.floorOf x) :: rest))) : W p l e R s m args below meth c H locs cells slots Q (F0 m pc ls (.double x :: rest)) := by
  have hcode : (Cond.code Jvm.Free.Hsc.MFloorA.yN Jvm.Free.Hsc.MFloorA.yB 2 (some .double)).before args s = true := by
    have h := htab
    simp only [Jvm.Free.Hsc.MFloorA.tab, Cond.before_and, Bool.and_eq_true] at h
    exact h.1
  refine vd_pure (av := [.double x]) hexec hb hml hown hlink hstat hinit hcode (by decide) (Jvm.Free.Hsc.MFloorA.pays htab hfr (by omega)) (fun sig hs => ?_) hrest hdg (fun T vm₁ hT hW => ⟨hc, hs, x, rfl, hx, ?_⟩) (fun A' B v hp hq => ?_) k
  · rw [show parseMethodDescriptor Jvm.Free.Hsc.MFloorA.yN.desc = some ⟨[.double], some .double⟩ from by decide +kernel] at hs
    rw [← Option.some.inj hs]
    rfl
  · exact vd_Zs (va_Z.moved (U := T.setVm vm₁) hW.alike hZ) hT
  · obtain ⟨_, _, g, hg, hn, hz⟩ := hp
    have e9 : (#[Value.double x] : Array Value) = #[.double g] := hg
    simp at e9
    subst e9
    exact ⟨hq.2 x ⟨hg, hn, hz⟩, hq.1⟩
theorem vd_abs {own : String} {index : Nat} {bytes : ByteArray} (hexec : p.tables.exec = Jvm.exec) (hb : c.code = cc) (hml : c.maxLocals = ls.size) (hown : s.vm.findClass own = some m.cls) (hlink : (Cond.methodLink own index Jvm.Free.NT.mathAbs64N).before args s = true) (hstat : (Cond.static Jvm.Free.NT.mathAbs64N).before args s = true) (hinit : (Cond.initialized "java/lang/Math").before args s = true) (hcode : (Cond.code Jvm.Free.NT.mathAbs64N bytes 2 (some .double)).before args s = true)
    (hfr : 1 ≤ R.frames) (hlo : 100 ≤ R.locals) {x : UInt64} (hx : Jvm.Free.Fl.NoNaN64 x) (hrest : (rest.map fun v => v.category).sum ≤ 8) (hdg : decode cc pc = .ok (.invokestatic index, 3))
    (k : W p l e R s m args below meth c H locs cells slots Q (F0 m (pc + 3) ls (.double (x &&& 0x7fffffffffffffff) :: rest))) : W p l e R s m args below meth c H locs cells slots Q (F0 m pc ls (.double x :: rest)) := by
  refine vd_pure (av := [.double x]) hexec hb hml hown hlink hstat hinit hcode (by decide) (Jvm.Free.NT.Abs64.pays hcode hstat hfr (by omega)) (fun sig hs => ?_) hrest hdg (fun T vm₁ hT hW => ⟨x, rfl, hx⟩) (fun A' B v hp hq => ?_) k
  · rw [show parseMethodDescriptor Jvm.Free.NT.mathAbs64N.desc = some ⟨[.double], some .double⟩ from by decide +kernel] at hs
    rw [← Option.some.inj hs]
    rfl
  · obtain ⟨g, hg, hn⟩ := hp
    have e9 : (#[Value.double x] : Array Value) = #[.double g] := hg
    simp at e9
    subst e9
    obtain ⟨rfl, h2⟩ := hq
    exact ⟨h2 x ⟨hg, hn⟩, rfl, rfl, rfl, rfl⟩
end VDJ
end
section
/-! Double.doubleToLongBits, Float.floatToIntBits -/
def vd_rD : MethodName := ⟨"java/lang/Double", "doubleToRawLongBits", "(D)J"⟩
def vd_rF : MethodName := ⟨"java/lang/Float", "floatToRawIntBits", "(F)I"⟩
def vd_dN : MethodName := ⟨"java/lang/Double", "doubleToLongBits", "(D)J"⟩
def vd_dB : ByteArray := ⟨#[0x26, 0xb8, 0x00, 0x7a, 0x9a, 0x00, 0x08, 0x26, 0xb8, 0x00, 0x86, 0xad, 0x14, 0x00, 0x89, 0xad]⟩
theorem vd_d0 : decode vd_dB 0 = .ok (.dload_n 0, 1) := by decide +kernel
theorem vd_d1 : decode vd_dB 1 = .ok (.invokestatic 122, 3) := by decide +kernel
theorem vd_d4 : decode vd_dB 4 = .ok (.ifCond .ne 8, 3) := by decide +kernel
theorem vd_d7 : decode vd_dB 7 = .ok (.dload_n 0, 1) := by decide +kernel
theorem vd_d8 : decode vd_dB 8 = .ok (.invokestatic 134, 3) := by decide +kernel
theorem vd_d11 : decode vd_dB 11 = .ok (.lreturn, 1) := by decide +kernel
def vd_dT : Cond := .and (.code vd_dN vd_dB 2 (some .long)) (.and (.methodLink "java/lang/Double" 122 Jvm.Free.Fl.IsNaN.yN) (.and (.static Jvm.Free.Fl.IsNaN.yN) (.and (.initialized "java/lang/Double") (.and Jvm.Free.Fl.IsNaN.tab (.and (.methodLink "java/lang/Double" 134 vd_rD) (.and (.native vd_rD) (.static vd_rD)))))))
def vd_dS : Spec where
  pre := .and (.count 1) vd_dT
  post := .tt
  room := { frames := 1, locals := 40 }
theorem vd_dG (l : Launch) (a : UInt64) : Jvm.Free.MetFree l vd_dN vd_dS (fun args _ => args = #[.double a] ∧ Jvm.Free.Fl.NoNaN64 a) (fun _ _ _ _ _ => True) (Jvm.Free.PureRet (some (.long a.toInt64))) := by
  refine Jvm.Free.MetFree.of_bodyS (code := vd_dB) (maxLocals := 2) (ret := some .long) (by decide) ?_ ?_
  · intro args s m h9 hn
    simp only [vd_dS, vd_dT, Cond.before_and, Bool.and_eq_true] at h9
    obtain ⟨meth, c, h1, h2, h3, h4, h5, h6, -, -⟩ := Cond.code_spec hn h9.2.1
    exact ⟨meth, c, h1, h2, h3, h4, h5, h6⟩
  · intro p e s m args below meth c' s₁ B hml hP _
    obtain ⟨rfl, hN⟩ := hP
    have hown : s.vm.findClass "java/lang/Double" = some m.cls := findClass_of_methodNamed B.named
    have hpre := B.pre
    simp only [vd_dS, vd_dT, Cond.before_and, Bool.and_eq_true] at hpre
    obtain ⟨-, -, hlink, hstat, hinit, hcodeI, hlink2, hnat2, hstat2⟩ := hpre
    have X0 := Stand.of_body B
    have hh0 : s₁.heap = s.heap := by rw [B.state]; rfl
    have hcodeI' : (Cond.code Jvm.Free.Fl.IsNaN.yN Jvm.Free.Fl.IsNaN.yB 2 (some .boolean)).before #[Value.double a] s = true := hcodeI
    obtain ⟨mk, hnamed⟩ := Cond.code_named hcodeI'
    obtain ⟨methM, cM, hmethM, -, -, -, -, -, -, hsigM⟩ := Cond.code_spec hnamed hcodeI'
    have come1 : Steps p.tables e below (s₁.setTop (entryFrame m #[.double a] 2)) (s₁.setTop { method := m, pc := 1, locals := #[.val (.double a), .second], stack := [.double a], locked := none }) := by
      show Steps p.tables e below (s₁.setTop { method := m, pc := 0, locals := #[.val (.double a), .second], stack := [], locked := none }) _
      jvm_step B.here [B.exec, B.bytes, vd_d0]
      exact Steps.refl _
    obtain ⟨r2, vm2, ⟨T2, L2, c2, n2⟩, hW2, X2, ⟨⟨hh2, hL2, hc2, hn2⟩, hv2⟩, come4⟩ := X0.staticBack B.exec (own := "java/lang/Double") (index := 122) (y := Jvm.Free.Fl.IsNaN.yN) hown hlink hstat hinit hnamed hmethM hsigM (by decide)
      (Jvm.Free.Back.of_pure (len := 3) (W := 0) (G := Unit) (P := fun _ ar _ => ar = #[.double a]) (val := fun _ => some (.int 0)) (S := Jvm.Free.Fl.IsNaN.spec) (tab := Jvm.Free.Fl.IsNaN.tab) (n := 1) (bytes := Jvm.Free.Fl.IsNaN.yB) (maxL := 2) (ret := some .boolean) (fun _ => Jvm.Free.Fl.IsNaN.gets_num l a hN) rfl rfl rfl (by show 0 + 1 ≤ 1; omega) (by show 0 + (2 + 11) + 0 ≤ 40; omega) (fun _ ar U h => by rw [h]; rfl) (fun _ ar U U' _ _ h => h) (by decide +kernel) hcodeI hcodeI' hinit)
      (g := { method := m, pc := 1, locals := #[.val (.double a), .second], stack := [.double a], locked := none }) rfl (by rw [hml]; rfl) come1 (argsL := [.double a]) (rest := [])
      (fun sig hs => by rw [show parseMethodDescriptor Jvm.Free.Fl.IsNaN.yN.desc = some ⟨[.double], some .boolean⟩ from by decide +kernel] at hs; rw [← Option.some.inj hs]; rfl) rfl (by show 2 * 0 + 0 ≤ 0; decide) (by rw [B.bytes]; exact vd_d1)
      (fun vmx hWx => ⟨Nat.zero_le _, Nat.zero_le _, (), rfl⟩)
    have hr2 := hv2 () rfl
    dsimp only [Jvm.Free.Pt.U, Jvm.Free.Pt.locs, Jvm.Free.Pt.cells, Jvm.Free.Pt.slots] at X2 hh2 hL2 hc2 hn2 come4
    subst hr2 hL2 hc2 hn2
    replace hh2 : T2.heap = s.heap := by rw [hh2]; exact hh0
    have come8 : Steps p.tables e below (s₁.setTop (entryFrame m #[.double a] 2)) (T2.setTop { method := m, pc := 8, locals := #[.val (.double a), .second], stack := [.double a], locked := none }) := by
      refine come4.trans ?_
      show Steps p.tables e below (T2.setTop { method := m, pc := 4, locals := #[.val (.double a), .second], stack := [.int 0], locked := none }) _
      have hc : ifCond.holds .ne (0 : Int32) = false := by decide
      jvm_step X2.here [X2.here.top, B.exec, B.bytes, vd_d4, hc]
      jvm_step X2.here [X2.here.top, B.exec, B.bytes, vd_d7]
      exact Steps.refl _
    obtain ⟨vm3, X3, st3⟩ := X2.doubleToRawLongBits B.exec hown hlink2 hnat2 hstat2 hinit (g := { method := m, pc := 8, locals := #[.val (.double a), .second], stack := [.double a], locked := none }) rfl (by rw [hml]; rfl) (rest := []) (b := a) rfl (by rw [B.bytes]; exact vd_d8) (by show 1 ≤ 1; omega) (by show 2 * 0 + 0 + (nativeFrameWords "java/lang/Double" "doubleToRawLongBits" 2 + 11) ≤ 40; decide +kernel)
    have hh3 : (T2.setVm vm3).heap = s.heap := hh2
    generalize T2.setVm vm3 = T3 at X3 st3 hh3
    obtain ⟨fs, hret, hrun, hended, hWend, hsame⟩ := X3.leave (v := some (.long a.toInt64)) (fun h => by rw [B.returns] at h; cases h)
    refine ⟨T3.setFrames fs, _, come8.trans (st3 _ ?_), hrun, hended, rfl, hh3, ⟨_, rfl⟩, hWend, hsame⟩
    show Steps p.tables e below (T3.setTop { method := m, pc := 11, locals := #[.val (.double a), .second], stack := [.long a.toInt64], locked := none }) _
    jvm_step X3.here [X3.here.top, B.exec, B.bytes, vd_d11, X3.method', B.returns, narrow]
    first | (intro acts; rw [hret _ acts rfl rfl rfl]) | (refine ⟨meth, X3.method', ⟨_, B.returns, rfl⟩, fun acts => ?_⟩; rw [hret _ acts rfl rfl rfl])
    exact Steps.refl _
def vd_fN : MethodName := ⟨"java/lang/Float", "floatToIntBits", "(F)I"⟩
def vd_fB : ByteArray := ⟨#[0x22, 0xb8, 0x00, 0x3b, 0x9a, 0x00, 0x08, 0x22, 0xb8, 0x00, 0x4a, 0xac, 0x12, 0x4d, 0xac]⟩
theorem vd_f0 : decode vd_fB 0 = .ok (.fload_n 0, 1) := by decide +kernel
theorem vd_f1 : decode vd_fB 1 = .ok (.invokestatic 59, 3) := by decide +kernel
theorem vd_f4 : decode vd_fB 4 = .ok (.ifCond .ne 8, 3) := by decide +kernel
theorem vd_f7 : decode vd_fB 7 = .ok (.fload_n 0, 1) := by decide +kernel
theorem vd_f8 : decode vd_fB 8 = .ok (.invokestatic 74, 3) := by decide +kernel
theorem vd_f11 : decode vd_fB 11 = .ok (.ireturn, 1) := by decide +kernel
def vd_fT : Cond := .and (.code vd_fN vd_fB 1 (some .int)) (.and (.methodLink "java/lang/Float" 59 Jvm.Free.Fl.OfFloat.IsNaN.yN) (.and (.static Jvm.Free.Fl.OfFloat.IsNaN.yN) (.and (.initialized "java/lang/Float") (.and Jvm.Free.Fl.OfFloat.IsNaN.tab (.and (.methodLink "java/lang/Float" 74 vd_rF) (.and (.native vd_rF) (.static vd_rF)))))))
def vd_fS : Spec where
  pre := .and (.count 1) vd_fT
  post := .tt
  room := { frames := 1, locals := 40 }
theorem vd_fG (l : Launch) (a : UInt32) : Jvm.Free.MetFree l vd_fN vd_fS (fun args _ => args = #[.float a] ∧ Jvm.Free.Fl.NoNaN32 a) (fun _ _ _ _ _ => True) (Jvm.Free.PureRet (some (.int a.toInt32))) := by
  refine Jvm.Free.MetFree.of_bodySF (code := vd_fB) (maxLocals := 1) (ret := some .int) (by decide +kernel) ?_ ?_
  · intro args s m h9 hn
    simp only [vd_fS, vd_fT, Cond.before_and, Bool.and_eq_true] at h9
    obtain ⟨meth, c, h1, h2, h3, h4, h5, h6, -, -⟩ := Cond.code_spec hn h9.2.1
    exact ⟨meth, c, h1, h2, h3, h4, h5, h6⟩
  · intro p e s m args below meth c' s₁ B hml hP _
    obtain ⟨rfl, hN⟩ := hP
    have hown : s.vm.findClass "java/lang/Float" = some m.cls := findClass_of_methodNamed B.named
    have hpre := B.pre
    simp only [vd_fS, vd_fT, Cond.before_and, Bool.and_eq_true] at hpre
    obtain ⟨-, -, hlink, hstat, hinit, hcodeI, hlink2, hnat2, hstat2⟩ := hpre
    have X0 := Stand.of_body B
    have hh0 : s₁.heap = s.heap := by rw [B.state]; rfl
    have hcodeI' : (Cond.code Jvm.Free.Fl.OfFloat.IsNaN.yN Jvm.Free.Fl.OfFloat.IsNaN.yB 1 (some .boolean)).before #[Value.float a] s = true := hcodeI
    obtain ⟨mk, hnamed⟩ := Cond.code_named hcodeI'
    obtain ⟨methM, cM, hmethM, -, -, -, -, -, -, hsigM⟩ := Cond.code_spec hnamed hcodeI'
    have come1 : Steps p.tables e below (s₁.setTop (entryFrame m #[.float a] 1)) (s₁.setTop { method := m, pc := 1, locals := #[.val (.float a)], stack := [.float a], locked := none }) := by
      show Steps p.tables e below (s₁.setTop { method := m, pc := 0, locals := #[.val (.float a)], stack := [], locked := none }) _
      jvm_step B.here [B.exec, B.bytes, vd_f0]
      exact Steps.refl _
    obtain ⟨r2, vm2, ⟨T2, L2, c2, n2⟩, hW2, X2, ⟨⟨hh2, hL2, hc2, hn2⟩, hv2⟩, come4⟩ := X0.staticBack B.exec (own := "java/lang/Float") (index := 59) (y := Jvm.Free.Fl.OfFloat.IsNaN.yN) hown hlink hstat hinit hnamed hmethM hsigM (by decide)
      (Jvm.Free.Back.of_pure (len := 3) (W := 0) (G := Unit) (P := fun _ ar _ => ar = #[.float a]) (val := fun _ => some (.int 0)) (S := Jvm.Free.Fl.OfFloat.IsNaN.spec) (tab := Jvm.Free.Fl.OfFloat.IsNaN.tab) (n := 1) (bytes := Jvm.Free.Fl.OfFloat.IsNaN.yB) (maxL := 1) (ret := some .boolean) (fun _ => Jvm.Free.Fl.OfFloat.IsNaN.gets_num l a hN) rfl rfl rfl (by show 0 + 1 ≤ 1; omega) (by show 0 + (1 + 11) + 0 ≤ 40; omega) (fun _ ar U h => by rw [h]; rfl) (fun _ ar U U' _ _ h => h) (by decide +kernel) hcodeI hcodeI' hinit)
      (g := { method := m, pc := 1, locals := #[.val (.float a)], stack := [.float a], locked := none }) rfl (by rw [hml]; rfl) come1 (argsL := [.float a]) (rest := [])
      (fun sig hs => by rw [show parseMethodDescriptor Jvm.Free.Fl.OfFloat.IsNaN.yN.desc = some ⟨[.float], some .boolean⟩ from by decide +kernel] at hs; rw [← Option.some.inj hs]; rfl) rfl (by show 2 * 0 + 0 ≤ 0; decide) (by rw [B.bytes]; exact vd_f1)
      (fun vmx hWx => ⟨Nat.zero_le _, Nat.zero_le _, (), rfl⟩)
    have hr2 := hv2 () rfl
    dsimp only [Jvm.Free.Pt.U, Jvm.Free.Pt.locs, Jvm.Free.Pt.cells, Jvm.Free.Pt.slots] at X2 hh2 hL2 hc2 hn2 come4
    subst hr2 hL2 hc2 hn2
    replace hh2 : T2.heap = s.heap := by rw [hh2]; exact hh0
    have come8 : Steps p.tables e below (s₁.setTop (entryFrame m #[.float a] 1)) (T2.setTop { method := m, pc := 8, locals := #[.val (.float a)], stack := [.float a], locked := none }) := by
      refine come4.trans ?_
      show Steps p.tables e below (T2.setTop { method := m, pc := 4, locals := #[.val (.float a)], stack := [.int 0], locked := none }) _
      have hc : ifCond.holds .ne (0 : Int32) = false := by decide
      jvm_step X2.here [X2.here.top, B.exec, B.bytes, vd_f4, hc]
      jvm_step X2.here [X2.here.top, B.exec, B.bytes, vd_f7]
      exact Steps.refl _
    obtain ⟨vm3, X3, st3⟩ := X2.floatToRawIntBits B.exec hown hlink2 hnat2 hstat2 hinit (g := { method := m, pc := 8, locals := #[.val (.float a)], stack := [.float a], locked := none }) rfl (by rw [hml]; rfl) (rest := []) (b := a) rfl (by rw [B.bytes]; exact vd_f8) (by show 1 ≤ 1; omega) (by show 2 * 0 + 0 + (nativeFrameWords "java/lang/Float" "floatToRawIntBits" 1 + 11) ≤ 40; decide +kernel)
    have hh3 : (T2.setVm vm3).heap = s.heap := hh2
    generalize T2.setVm vm3 = T3 at X3 st3 hh3
    obtain ⟨fs, hret, hrun, hended, hWend, hsame⟩ := X3.leave (v := some (.int a.toInt32)) (fun h => by rw [B.returns] at h; cases h)
    refine ⟨T3.setFrames fs, _, come8.trans (st3 _ ?_), hrun, hended, rfl, hh3, ⟨_, rfl⟩, hWend, hsame⟩
    show Steps p.tables e below (T3.setTop { method := m, pc := 11, locals := #[.val (.float a)], stack := [.int a.toInt32], locked := none }) _
    jvm_step X3.here [X3.here.top, B.exec, B.bytes, vd_f11, X3.method', B.returns, narrow]
    first | (intro acts; rw [hret _ acts rfl rfl rfl]) | (refine ⟨meth, X3.method', ⟨_, B.returns, rfl⟩, fun acts => ?_⟩; rw [hret _ acts rfl rfl rfl])
    exact Steps.refl _
section VDK
variable {p : Program} {l : Launch} {e : Env} {R : Room} {s : State} {m : MethodId} {args : Array Value} {below : List Frame} {meth : Method} {c : Code} {H : Heap} {locs : List Loc} {cells slots : Nat} {Q : State → Prop}
variable {pc : Nat} {ls : Array Slot} {rest : List Value} {cc : ByteArray}
theorem vd_dtl {own : String} {index : Nat} (hexec : p.tables.exec = Jvm.exec) (hb : c.code = cc) (hml : c.maxLocals = ls.size) (hown : s.vm.findClass own = some m.cls) (hlink : (Cond.methodLink own index vd_dN).before args s = true) (hstat : (Cond.static vd_dN).before args s = true) (hinit : (Cond.initialized "java/lang/Double").before args s = true) (htab : vd_dT.before args s = true)
    (hfr : 2 ≤ R.frames) (hlo : 100 ≤ R.locals) (hc : cells ≤ R.cells) (hs : slots ≤ R.slots) {x : UInt64} (hx : Jvm.Free.Fl.NoNaN64 x) (hrest : (rest.map fun v => v.category).sum ≤ 8) (hdg : decode cc pc = .ok (.invokestatic index, 3))
    (k : W p l e R s m args below meth c H locs cells slots Q (F0 m (pc + 3) ls (.long x.toInt64 :: rest))) : W p l e R s m args below meth c H locs cells slots Q (F0 m pc ls (.double x :: rest)) := by
  have hcode : (Cond.code vd_dN vd_dB 2 (some .long)).before args s = true := by
    have h := htab
    simp only [vd_dT, Cond.before_and, Bool.and_eq_true] at h
    exact h.1
  refine vd_pure (av := [.double x]) hexec hb hml hown hlink hstat hinit hcode (by decide) (Jvm.Free.Back.of_pure (len := 3) (W := 8) (G := Unit) (P := fun _ ar _ => ar = #[.double x] ∧ Jvm.Free.Fl.NoNaN64 x) (val := fun _ => some (.long x.toInt64)) (S := vd_dS) (tab := vd_dT) (n := 1) (bytes := vd_dB) (maxL := 2) (ret := some .long) (fun _ => vd_dG l x) rfl rfl rfl (by show 1 + 1 ≤ R.frames; omega) (by show 8 + (2 + 11) + 40 ≤ R.locals; omega) (fun _ ar U h => by rw [h.1]; rfl) (fun _ ar U U' _ _ h => h) (by decide +kernel) htab hcode hinit) (fun sig hs => ?_) hrest hdg (fun T vm₁ hT hW => ⟨hc, hs, (), rfl, hx⟩) (fun A' B v hp hq => ⟨hq.2 () ⟨rfl, hx⟩, hq.1⟩) k
  rw [show parseMethodDescriptor vd_dN.desc = some ⟨[.double], some .long⟩ from by decide +kernel] at hs
  rw [← Option.some.inj hs]
  rfl
end VDK
section VDL
variable {p : Program} {l : Launch} {e : Env} {R : Room} {s : State} {m : MethodId} {args : Array Value} {below : List Frame} {meth : Method} {c : Code} {H : Heap} {locs : List Loc} {cells slots : Nat} {Q : State → Prop}
variable {pc : Nat} {ls : Array Slot} {rest : List Value} {cc : ByteArray}
theorem vd_fti {own : String} {index : Nat} (hexec : p.tables.exec = Jvm.exec) (hb : c.code = cc) (hml : c.maxLocals = ls.size) (hown : s.vm.findClass own = some m.cls) (hlink : (Cond.methodLink own index vd_fN).before args s = true) (hstat : (Cond.static vd_fN).before args s = true) (hinit : (Cond.initialized "java/lang/Float").before args s = true) (htab : vd_fT.before args s = true)
    (hfr : 2 ≤ R.frames) (hlo : 100 ≤ R.locals) (hc : cells ≤ R.cells) (hs : slots ≤ R.slots) {x : UInt32} (hx : Jvm.Free.Fl.NoNaN32 x) (hrest : (rest.map fun v => v.category).sum ≤ 8) (hdg : decode cc pc = .ok (.invokestatic index, 3))
    (k : W p l e R s m args below meth c H locs cells slots Q (F0 m (pc + 3) ls (.int x.toInt32 :: rest))) : W p l e R s m args below meth c H locs cells slots Q (F0 m pc ls (.float x :: rest)) := by
  have hcode : (Cond.code vd_fN vd_fB 1 (some .int)).before args s = true := by
    have h := htab
    simp only [vd_fT, Cond.before_and, Bool.and_eq_true] at h
    exact h.1
  refine vd_pure (av := [.float x]) hexec hb hml hown hlink hstat hinit hcode (by decide) (Jvm.Free.Back.of_pure (len := 3) (W := 8) (G := Unit) (P := fun _ ar _ => ar = #[.float x] ∧ Jvm.Free.Fl.NoNaN32 x) (val := fun _ => some (.int x.toInt32)) (S := vd_fS) (tab := vd_fT) (n := 1) (bytes := vd_fB) (maxL := 1) (ret := some .int) (fun _ => vd_fG l x) rfl rfl rfl (by show 1 + 1 ≤ R.frames; omega) (by show 8 + (1 + 11) + 40 ≤ R.locals; omega) (fun _ ar U h => by rw [h.1]; rfl) (fun _ ar U U' _ _ h => h) (by decide +kernel) htab hcode hinit) (fun sig hs => ?_) hrest hdg (fun T vm₁ hT hW => ⟨hc, hs, (), rfl, hx⟩) (fun A' B v hp hq => ⟨hq.2 () ⟨rfl, hx⟩, hq.1⟩) k
  rw [show parseMethodDescriptor vd_fN.desc = some ⟨[.float], some .int⟩ from by decide +kernel] at hs
  rw [← Option.some.inj hs]
  rfl
end VDL
end
