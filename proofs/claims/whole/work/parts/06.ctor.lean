/-! ===== methods that make cells: constructors ===== -/
def hn_QN (D : va_G) (ws : va_W) (sz : Nat) (X : va_W → Prop) : Array Value → State → Outcome → State → Prop := va_Qv (fun (_ : Unit) => True) (fun _ t => ∃ w1, X w1 ∧ va_P D classes w1 t.heap ∧ va_D (va_A ws sz) w1) (va_A ws sz)
section HNC
variable {l : Launch} {y : MethodName} {cc : ByteArray} {maxL : Nat} {rm : Room} {D : va_G} {ty : List (ClassId × FieldType)} {tt : Nat → Nat} {av : List Value} {sz : Nat} {ws : va_W} {own : String}
theorem hn_ofWN {X : va_W → Prop} {mc ms : Nat} (hy : plainName y.cls = true) (hown : y.cls = own) (hnm : y.name = "<init>") (hlen : (lg_sl av).length ≤ maxL)
    (body : ∀ (p : Program) (e : Env) (s : State) (m : MethodId) (args : Array Value) (below : List Frame) (meth : Method) (c : Code) (A : Nat → Prop) (H : Heap) (locs : List Loc) (ls : Array Slot) (Q : State → Prop), CallFix p m c cc maxL s args hn_T own → meth.name = "<init>" → hn_E D ty tt A s H locs ws → lv_has ls maxL (lv_args 0 av) →
      (∀ (H : Heap) (locs : List Loc) (ls : Array Slot) (pc : Nat) (w1 : va_W), decode cc pc = .ok (.return_, 1) → X w1 → hn_E D ty tt A s H locs w1 → W p l e rm s m args below meth c H locs mc ms Q (F0 m pc ls [])) →
      W p l e rm s m args below meth c H locs 0 0 Q (F0 m 0 ls [])) : Met l y (hn_w y cc maxL none) rm (hn_Pc D ty tt av sz ws) (hn_QN D ws sz X) mc ms (va_A ws sz) := by
  refine Met.ofW (cc := cc) (maxL := maxL) (ret := none) hy rfl ?_
  intro p e s m args below meth c s₁ B hml hv
  obtain ⟨rfl, hsz, hP, hK, hD0, hST⟩ := hv
  subst hsz
  have hts := atoms_spec (ws := hn_w y cc maxL none) B.pre
  have hin : meth.name = "<init>" := (name_of_methodNamed B.named B.method).1.trans hnm
  rw [lg_entry_eq]
  exact body p e s m _ below meth c _ _ _ _ _ ⟨B.exec, B.bytes, hml, hown ▸ findClass_of_methodNamed B.named, fun w hw => hts w (List.mem_cons_of_mem _ hw)⟩ hin ⟨hK, hP, hD0.self, va_S.rf, fun q h => Or.inr h, hST⟩ (lv_entry av (n := maxL) hlen)
    (fun H locs ls pc w1 hd hX hE => W.vret B.exec B.bytes B.returns (fun t ht hW => ⟨⟨(), rfl, trivial, ⟨w1, hX, (show va_P D classes w1 t.heap by rw [ht]; exact hE.2.1), hE.2.2.1⟩⟩, hE.2.2.2.1.F ht⟩) hE.2.2.2.1.2.2 hd B.notSynchronized)
end HNC
section HNA
variable {p : Program} {l : Launch} {e : Env} {R : Room} {s : State} {m : MethodId} {args : Array Value} {below : List Frame} {meth : Method} {c : Code} {H : Heap} {locs : List Loc} {cells slots : Nat} {Q : State → Prop}
variable {cc : ByteArray} {pc nL : Nat} {ls : Array Slot} {rest : List Value} {D : va_G} {A : Nat → Prop} {a : Nat} {ty : List (ClassId × FieldType)} {tt : Nat → Nat} {ws : va_W} {own : String}
theorem hn_oinit (S : CallFix p m c cc nL s args hn_T own) (hsz : ls.size = nL) {idx : Nat} (hl : Cond.methodLink own idx objectInit ∈ hn_T) (hdg : decode cc pc = .ok (.invokespecial idx, 3)) (hframes : 1 ≤ R.frames) (hlocals : (rest.map fun v => v.category).sum + 12 ≤ R.locals)
    (kk : W p l e R s m args below meth c H locs cells slots Q (F0 m (pc + 3) ls rest)) : W p l e R s m args below meth c H locs cells slots Q (F0 m pc ls (.ref a :: rest)) :=
  W.objInit (g := F0 m pc ls (.ref a :: rest)) S.1 S.2.1 S.2.2.2.1 (S.2.2.2.2 _ hl) (S.2.2.2.2 _ mw_16) (S.2.2.2.2 _ mw_17) rfl (hsz.trans S.2.2.1.symm) rfl hdg hframes (by show 2 * 0 + _ + 12 ≤ _; omega) kk
theorem hn_new (S : CallFix p m c cc nL s args hn_T own) (hE : hn_E D ty tt A s H locs ws) {C : String} {T : u_T} {N ci index : Nat} (hin : ∀ w ∈ u_ws C T N, w ∈ hn_T) {ty0 : Nat → FieldType} (hty : ∀ k, k < N → parseFieldDescriptor (T k).2.2.1 = some (ty0 k)) (hcl : Cond.classLink own index C ∈ hn_T) (hinst : Cond.instantiable C N ∈ hn_T) (hini : Cond.initialized C ∈ hn_T)
    (hc : classes[ci]? = some (C, T, N)) {fs : List Value} (hfs : ∀ j, j < N → defaultValue (ty0 j) = vp_V fs j) (hcells : cells + 1 ≤ R.cells) (hslots : slots + N ≤ R.slots) (hdg : decode cc pc = .ok (.new index, 3))
    (kk : ∀ (q : Nat) (H1 : Heap), hn_E D ty tt A s H1 locs (ws ++ [(q, .inr (ci, fs))]) → W p l e R s m args below meth c H1 locs (cells + 1) (slots + N) Q (F0 m (pc + 3) ls (.ref q :: rest))) : W p l e R s m args below meth c H locs cells slots Q (F0 m pc ls rest) :=
  va_new S.1 S.2.1 S.2.2.2.2 hin ty0 hty S.2.2.2.1 (S.2.2.2.2 _ hcl) (S.2.2.2.2 _ hinst) (S.2.2.2.2 _ hini) hE.1 hE.2.1 hE.2.2.1 hE.2.2.2.1 hE.2.2.2.2.1 hc hfs hcells hslots hdg (fun q H1 hP hD hS => kk q H1 ⟨hE.1, hP, hD, hS, hE.2.2.2.2.1, hE.2.2.2.2.2⟩)
theorem hn_putF (S : CallFix p m c cc nL s args hn_T own) (hin2 : meth.name = "<init>") (hE : hn_E D ty tt A s H locs ws) {C : String} {T : u_T} {N ci index : Nat} (hin : ∀ w ∈ u_ws C T N, w ∈ hn_T) {ty0 : Nat → FieldType} (hty : ∀ k, k < N → parseFieldDescriptor (T k).2.2.1 = some (ty0 k)) (hnm : ∀ a, a < N → ∀ b, b < N → a ≠ b → (T a).2.1 ≠ (T b).2.1) (q0 : Nat) {fs : List Value} (he : ws[q0]? = some (a, .inr (ci, fs))) (hc : classes[ci]? = some (C, T, N)) (k : Nat) (hk : k < N) (hlink : Cond.fieldLink own index (T k).1 (T k).2.1 (T k).2.2.1 ∈ hn_T) (hfin : (T k).2.2.2 = true) (hdecl : (T k).1 = own) {tv : FieldType} {v : Value} (hd : parseFieldDescriptor (T k).2.2.1 = some tv) (hn : narrow tv v = v) (hfit : fits tv v = true) (hl : k < fs.length)
    (hdg : decode cc pc = .ok (.putfield index, 3)) (kk : ∀ (H1 : Heap) (locs1 : List Loc), hn_E D ty tt A s H1 locs1 (ws.set q0 (a, .inr (ci, fs.set k v))) → W p l e R s m args below meth c H1 locs1 cells slots Q (F0 m (pc + 3) ls rest)) : W p l e R s m args below meth c H locs cells slots Q (F0 m pc ls (v :: .ref a :: rest)) :=
  va_putF S.1 S.2.1 S.2.2.2.2 hin ty0 hty hnm S.2.2.2.1 hE.1 hE.2.1 hE.2.2.1 hE.2.2.2.1 q0 he hc k hk (S.2.2.2.2 _ hlink) (fun _ h => h) hfin hin2 hdecl hd hn hfit hl hdg (fun H1 locs1 hP hD hS => kk H1 locs1 ⟨hE.1, hP, hD, hS, hE.2.2.2.2.1, hE.2.2.2.2.2⟩)
theorem hn_newI {cI cZ : ClassId} (S : CallFix p m c cc nL s args hn_T own) (hE : hn_E D (TY cI cZ) tt A s H locs ws) {n : Int32} {N' : Nat} (hn : ¬ n < 0) (hN : n.toNatClampNeg = N') (hbytes : N' * 4 ≤ 536870912) (hcells : cells + 1 ≤ R.cells) (hslots : slots + N' ≤ R.slots) (hdg : decode cc pc = .ok (.newarray .int, 2))
    (kk : ∀ (q : Nat) (H1 : Heap), hn_E D (TY cI cZ) tt A s H1 locs (ws ++ [(q, .inl (cI, N', .inl (fun _ => 0)))]) → W p l e R s m args below meth c H1 locs (cells + 1) (slots + N') Q (F0 m (pc + 2) ls (.ref q :: rest))) : W p l e R s m args below meth c H locs cells slots Q (F0 m pc ls (.int n :: rest)) := by
  refine va_newa (atype := .int) (ty := .int) (a0 := (N', .inl (fun _ => 0))) S.1 S.2.1 (S.2.2.2.2 _ mw_31) rfl hE.1 hE.2.1 hE.2.2.1 hE.2.2.2.1 hE.2.2.2.2.1 (fun _ => rfl) hn hN hbytes hcells hslots hdg (fun q cA H1 hK hP hD hS => ?_)
  have e1 : s.vm.findClass ("[" ++ FieldType.int.toString) = some cI := (hE.1.2 0 _ rfl).2
  have e2 : s.vm.findClass ("[" ++ FieldType.int.toString) = some cA := (hK.2 2 _ rfl).2
  have e3 : cI = cA := Option.some.inj (e1.symm.trans e2)
  subst e3
  exact kk q H1 ⟨hE.1, hP, hD, hS, hE.2.2.2.2.1, hE.2.2.2.2.2⟩
theorem hn_newZ {cI cZ : ClassId} (S : CallFix p m c cc nL s args hn_T own) (hE : hn_E D (TY cI cZ) tt A s H locs ws) {n : Int32} {N' : Nat} (hn : ¬ n < 0) (hN : n.toNatClampNeg = N') (hbytes : N' * 1 ≤ 536870912) (hcells : cells + 1 ≤ R.cells) (hslots : slots + N' ≤ R.slots) (hdg : decode cc pc = .ok (.newarray .boolean, 2))
    (kk : ∀ (q : Nat) (H1 : Heap), hn_E D (TY cI cZ) tt A s H1 locs (ws ++ [(q, .inl (cZ, N', .inl (fun _ => 0)))]) → W p l e R s m args below meth c H1 locs (cells + 1) (slots + N') Q (F0 m (pc + 2) ls (.ref q :: rest))) : W p l e R s m args below meth c H locs cells slots Q (F0 m pc ls (.int n :: rest)) := by
  refine va_newa (atype := .boolean) (ty := .boolean) (a0 := (N', .inl (fun _ => 0))) S.1 S.2.1 (S.2.2.2.2 _ mw_56) rfl hE.1 hE.2.1 hE.2.2.1 hE.2.2.2.1 hE.2.2.2.2.1 (fun _ => rfl) hn hN hbytes hcells hslots hdg (fun q cA H1 hK hP hD hS => ?_)
  have e1 : s.vm.findClass ("[" ++ FieldType.boolean.toString) = some cZ := (hE.1.2 1 _ rfl).2
  have e2 : s.vm.findClass ("[" ++ FieldType.boolean.toString) = some cA := (hK.2 2 _ rfl).2
  have e3 : cZ = cA := Option.some.inj (e1.symm.trans e2)
  subst e3
  exact kk q H1 ⟨hE.1, hP, hD, hS, hE.2.2.2.2.1, hE.2.2.2.2.2⟩
variable {y : MethodName} {bytes : ByteArray} {maxL n index mc ms : Nat} {rm : Room} {wc wr : va_W} {As st : List Value} {b : Nat}
/-- a call of a constructor that makes cells; the world is put in another order: the rest first -/
theorem hn_cN {X : va_W → Prop} (S : CallFix p m c cc nL s args hn_T own) (hE : hn_E D ty tt A s H locs ws) (hM : Met l y (hn_w y bytes maxL none) rm (hn_Pc D ty tt (.ref b :: As) H.size wc) (hn_QN D wc H.size X) mc ms (va_A wc H.size)) (cf : hn_CF y bytes maxL none n) (hl : Cond.methodLink own index y ∈ hn_T) (hi : Cond.instanceMethod y ∈ hn_T) (hnm : y.name = "<init>") (hrc : rm.cells = mc ∧ rm.slots = ms) (hR : rm.frames + 1 ≤ R.frames ∧ 8 + (maxL + 11) + rm.locals ≤ R.locals)
    (isC isR : List Nat) (hC : isC.map (fun i => ws[i]?) = wc.map some) (hRs : isR.map (fun i => ws[i]?) = wr.map some) (hnd : va_nd isC = true) (hnr : va_nd isR = true) (hdis : ∀ i ∈ isR, i ∉ isC) (hn : As.length = n) (hst : st = As.reverse ++ .ref b :: rest) (hsize : ls.size = nL) (hW : 2 * (F0 m pc ls st).monitorRoom + (rest.map fun v => v.category).sum ≤ 8) (hdg : decode cc pc = .ok (.invokespecial index, 3)) (hf : cells + mc ≤ R.cells ∧ slots + ms ≤ R.slots)
    (kk : ∀ (H1 : Heap) (locs1 : List Loc) (w1 : va_W), X w1 → hn_E D ty tt A s H1 locs1 (wr ++ w1) → W p l e R s m args below meth c H1 locs1 (cells + mc) (slots + ms) Q (F0 m (pc + 3) ls rest)) : W p l e R s m args below meth c H locs cells slots Q (F0 m pc ls st) := by
  have hF := va_free (wc := wc) hE.2.2.1 hE.2.2.2.1 hE.2.2.2.2.1 isC hC
  have hr := va_runI (As := As) (rest := rest) (g := F0 m pc ls st) (cells := cells) (slots := slots) (below := below) (meth := meth) (locs := locs) (R := R) (e := e) (b := b) S hM ⟨callB_of n S.2.2.2.2 (hn_good cf.1) rfl hrc.1 hrc.2 (S.2.2.2.2 _ cf.2.1) (S.2.2.2.2 _ hl) ⟨cf.2.2.1, cf.2.2.2.1, cf.2.2.2.2⟩ hR, hnm, S.2.2.2.2 _ hi⟩ (hn_pre hE isC hC hnd) rfl hn hsize hst hW hdg hf
  refine va_callv hr hE.2.2.2.1 (fun q _ h => hF q h) hF (fun u t H1 locs1 ht hvm hw hB hz hk hS => ?_)
  obtain ⟨w1, hX, hP1, hD1⟩ : ∃ w1, X w1 ∧ va_P D classes w1 t.heap ∧ va_D (va_A wc H.size) w1 := hB
  rw [ht] at hP1
  obtain ⟨hP, hD⟩ := va_join (wr := wr) (w1 := w1) hE.2.1 hE.2.2.1 isC isR hC hRs hnr hdis hk hF hP1 hD1
  exact kk H1 locs1 w1 hX ⟨hE.1, hP, hD, hS, hE.2.2.2.2.1, hE.2.2.2.2.2⟩
/-- the world in another order -/
theorem hn_E.re {w' : va_W} (hE : hn_E D ty tt A s H locs ws) (is : List Nat) (hn : va_nd is = true) (hs : is.map (fun i => ws[i]?) = w'.map some) : hn_E D ty tt A s H locs w' :=
  ⟨hE.1, hn_sub hE.2.1 is hs, hE.2.2.1.sub is hn hs, hE.2.2.2.1, hE.2.2.2.2.1, hE.2.2.2.2.2⟩
end HNA
