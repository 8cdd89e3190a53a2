/-! Rows for methods that make cells: rows of numbers, objects, constructors. -/
def zO : Nat → Int32 := fun _ => 0
def zC {S : Type} (l : Launch) (y : MethodName) (cc : ByteArray) (nL : Nat) (fr lo nc ns : Nat) (D : va_G) (cI cZ : ClassId) (as : List Value) (w : va_W) (post : S → Prop) (w' : S → va_W) : Prop :=
  ∀ sz : Nat, Met l y (Cond.code y cc nL none :: zT) { frames := fr, cells := nc, slots := ns, locals := lo } (va_Pc as (zPre D cI cZ w sz)) (va_Qv post (fun u t => va_P D vwCl (w' u) t.heap ∧ va_D (va_A w sz) (w' u)) (va_A w sz)) nc ns (va_A w sz)
theorem zC_of {S : Type} {l : Launch} {y : MethodName} {cc : ByteArray} {nL : Nat} {fr lo nc ns : Nat} {D : va_G} {cI cZ : ClassId} {as : List Value} {w : va_W} {post : S → Prop} {w' : S → va_W} (hy : plainName y.cls = true) (hyn : y.name = "<init>") (hL : (lg_sl as).length ≤ nL)
    (body : ∀ (p : Program) (e : Env) (s : State) (m : MethodId) (args : Array Value) (below : List Frame) (meth : Method) (c : Code) (A : Nat → Prop) (ls : Array Slot),
      zAt p s m args meth c D cI cZ A y.cls cc nL none → meth.name = "<init>" → va_P D vwCl w s.heap → va_D A w → va_S A s.heap s.heap [] → lv_has ls nL (lv_args 0 as) →
      W p l e { frames := fr, cells := nc, slots := ns, locals := lo } s m args below meth c s.heap [] 0 0 (MQ below (va_Qv post (fun u t => va_P D vwCl (w' u) t.heap ∧ va_D A (w' u)) A) args s nc ns A) (F0 m 0 ls [])) :
    zC l y cc nL fr lo nc ns D cI cZ as w post w' := by
  intro sz
  refine Met.ofW (cc := cc) (maxL := nL) (ret := none) hy rfl ?_
  intro p e s m args below meth c s₁ B hml hv
  obtain ⟨rfl, hsz, hP, hK, hD0, hN⟩ := hv
  subst hsz
  have hts := atoms_spec (ws := Cond.code y cc nL none :: zT) B.pre
  rw [lg_entry_eq]
  exact body p e s m _ below meth c (va_A w s.heap.size) _ ⟨B.exec, B.bytes, B.returns, hml, (fun x hx => hts x (List.mem_cons_of_mem _ hx)), (findClass_of_methodNamed B.named), B.notSynchronized, hK, hN, (fun q h => Or.inr h)⟩ ((name_of_methodNamed B.named B.method).1.trans hyn) hP hD0.self va_S.rf (lv_entry as hL)
theorem zK_of {D : va_G} {s : State} {args : Array Value} (hts : ∀ x ∈ zT, x.before args s = true) (hK : va_K D vwCl [] s) : ∃ cI cZ : ClassId, va_K D vwCl [(cI, .int), (cZ, .boolean)] s := by
  obtain ⟨c1, k1, m1, f1, a1, b1⟩ := Cond.arrayClass_spec (hts _ zm66)
  obtain ⟨c2, k2, m2, f2, a2, b2⟩ := Cond.arrayClass_spec (hts _ zm132)
  refine ⟨c1, c2, hK.1, fun k q h => ?_⟩
  match k, h with
  | 0, h => cases h; exact ⟨fun n z => ⟨fun k h => (by cases h), k1, a1, m1, b1⟩, f1⟩
  | 1, h => cases h; exact ⟨fun n z => ⟨fun k h => (by cases h), k2, a2, m2, b2⟩, f2⟩
  | k + 2, h => simp at h
section ZM
variable {p : Program} {l : Launch} {e : Env} {R : Room} {s : State} {m : MethodId} {args : Array Value} {below : List Frame} {meth : Method} {c : Code} {H : Heap} {locs : List Loc} {cells slots : Nat} {Q : State → Prop}
variable {D : va_G} {cI cZ : ClassId} {A : Nat → Prop} {own : String} {cc : ByteArray} {nL : Nat} {ret : Option FieldType} {pc : Nat} {ls : Array Slot} {rest : List Value} {w : va_W} {a : Nat}
theorem z_newI (Z : zAt p s m args meth c D cI cZ A own cc nL ret) (hP : va_P D vwCl w H) (hD : va_D A w) (hS : va_S A s.heap H locs) {n : Nat} (hn : n ≤ 1000) (hcells : cells + 1 ≤ R.cells) (hslots : slots + n ≤ R.slots) (hdg : decode cc pc = .ok (.newarray .int, 2))
    (kk : ∀ (q : Nat) (H1 : Heap), va_P D vwCl (w ++ [(q, .inl (cI, n, .inl zO))]) H1 → va_D A (w ++ [(q, .inl (cI, n, .inl zO))]) → va_S A s.heap H1 locs → W p l e R s m args below meth c H1 locs (cells + 1) (slots + n) Q (F0 m (pc + 2) ls (.ref q :: rest))) : W p l e R s m args below meth c H locs cells slots Q (F0 m pc ls (.int (nI n) :: rest)) := by
  obtain ⟨hx, hb, -, -, hts, hown, -, hK, hN, hA⟩ := Z
  refine va_newa (atype := .int) (ty := .int) (n := nI n) (N' := n) (a0 := (n, .inl zO)) hx hb (hts _ zm66) rfl hK hP hD hS hA (fun cA => by rw [vp_cell_i]; rfl) (nI_pos (by omega)) (nI_clamp (by omega)) ?_ hcells hslots hdg (fun q cA H1 hK1 hP1 hD1 hS1 => ?_)
  · have e : componentBytes .int = 4 := rfl
    rw [e]; omega
  · have h1 : s.vm.findClass ("[" ++ FieldType.int.toString) = some cA := (hK1.2 2 (cA, .int) rfl).2
    have h2 : s.vm.findClass ("[" ++ FieldType.int.toString) = some cI := (hK.2 0 (cI, .int) rfl).2
    rw [h2] at h1
    cases h1
    exact kk q H1 hP1 hD1 hS1
theorem z_newZ (Z : zAt p s m args meth c D cI cZ A own cc nL ret) (hP : va_P D vwCl w H) (hD : va_D A w) (hS : va_S A s.heap H locs) {n : Nat} (hn : n ≤ 1000) (hcells : cells + 1 ≤ R.cells) (hslots : slots + n ≤ R.slots) (hdg : decode cc pc = .ok (.newarray .boolean, 2))
    (kk : ∀ (q : Nat) (H1 : Heap), va_P D vwCl (w ++ [(q, .inl (cZ, n, .inl zO))]) H1 → va_D A (w ++ [(q, .inl (cZ, n, .inl zO))]) → va_S A s.heap H1 locs → W p l e R s m args below meth c H1 locs (cells + 1) (slots + n) Q (F0 m (pc + 2) ls (.ref q :: rest))) : W p l e R s m args below meth c H locs cells slots Q (F0 m pc ls (.int (nI n) :: rest)) := by
  obtain ⟨hx, hb, -, -, hts, hown, -, hK, hN, hA⟩ := Z
  refine va_newa (atype := .boolean) (ty := .boolean) (n := nI n) (N' := n) (a0 := (n, .inl zO)) hx hb (hts _ zm132) rfl hK hP hD hS hA (fun cA => by rw [vp_cell_i]; rfl) (nI_pos (by omega)) (nI_clamp (by omega)) ?_ hcells hslots hdg (fun q cA H1 hK1 hP1 hD1 hS1 => ?_)
  · have e : componentBytes .boolean = 1 := rfl
    rw [e]; omega
  · have h1 : s.vm.findClass ("[" ++ FieldType.boolean.toString) = some cA := (hK1.2 2 (cA, .boolean) rfl).2
    have h2 : s.vm.findClass ("[" ++ FieldType.boolean.toString) = some cZ := (hK.2 1 (cZ, .boolean) rfl).2
    rw [h2] at h1
    cases h1
    exact kk q H1 hP1 hD1 hS1
theorem z_newO (Z : zAt p s m args meth c D cI cZ A own cc nL ret) {C : String} {T : u_T} {N ci index : Nat} (hin : ∀ x ∈ u_ws C T N, x ∈ zT) (ty0 : Nat → FieldType) (hty : ∀ k, k < N → parseFieldDescriptor (T k).2.2.1 = some (ty0 k)) (hP : va_P D vwCl w H) (hD : va_D A w) (hS : va_S A s.heap H locs) (m1 : Cond.classLink own index C ∈ zT) (m2 : Cond.instantiable C N ∈ zT) (m3 : Cond.initialized C ∈ zT)
    (hc : vwCl[ci]? = some (C, T, N)) {fs : List Value} (hfs : ∀ j, j < N → defaultValue (ty0 j) = vp_V fs j) (hcells : cells + 1 ≤ R.cells) (hslots : slots + N ≤ R.slots) (hdg : decode cc pc = .ok (.new index, 3))
    (kk : ∀ (q : Nat) (H1 : Heap), va_P D vwCl (w ++ [(q, .inr (ci, fs))]) H1 → va_D A (w ++ [(q, .inr (ci, fs))]) → va_S A s.heap H1 locs → W p l e R s m args below meth c H1 locs (cells + 1) (slots + N) Q (F0 m (pc + 3) ls (.ref q :: rest))) : W p l e R s m args below meth c H locs cells slots Q (F0 m pc ls rest) := by
  obtain ⟨hx, hb, -, -, hts, hown, -, hK, hN, hA⟩ := Z
  exact va_new hx hb hts hin ty0 hty hown (hts _ m1) (hts _ m2) (hts _ m3) hK hP hD hS hA hc hfs hcells hslots hdg kk
theorem z_oinit (Z : zAt p s m args meth c D cI cZ A own cc nL ret) (hls : ls.size = nL) {idx : Nat} (m1 : Cond.methodLink own idx objectInit ∈ zT) (hfr : 1 ≤ R.frames) (hlo : (rest.map fun v => v.category).sum + 12 ≤ R.locals) (hdg : decode cc pc = .ok (.invokespecial idx, 3))
    (kk : W p l e R s m args below meth c H locs cells slots Q (F0 m (pc + 3) ls rest)) : W p l e R s m args below meth c H locs cells slots Q (F0 m pc ls (.ref a :: rest)) := by
  obtain ⟨hx, hb, -, hml, hts, hown, -, hK, hN, hA⟩ := Z
  refine W.objInit hx hb hown (hts _ m1) (hts _ zm49) (hts _ zm50) rfl (by rw [hml]; exact hls) rfl hdg hfr ?_ ?_
  · show 2 * 0 + _ + 12 ≤ _
    omega
  · exact W.eq (g2 := F0 m (pc + 3) ls rest) rfl kk
variable {S : Type} {fr lo mL idx n nc ns : Nat} {y : MethodName} {bytes : ByteArray} {As st : List Value} {wc wr : va_W} {wc' : S → va_W} {b : Nat}
theorem z_callC {post : S → Prop} (Z : zAt p s m args meth c D cI cZ A own cc nL ret) (hP : va_P D vwCl w H) (hD : va_D A w) (hS : va_S A s.heap H locs) (hls : ls.size = nL)
    (C : zC l y bytes mL fr lo nc ns D cI cZ (.ref b :: As) wc post wc')
    (m1 : Cond.methodLink own idx y ∈ zT) (m2 : Cond.instanceMethod y ∈ zT) (m4 : Cond.initialized y.cls ∈ zT) (m5 : Cond.code y bytes mL none ∈ zT)
    (hd : y.cls ≠ "java/lang/invoke/MethodHandle" ∧ y.cls ≠ "java/lang/invoke/VarHandle" ∧ (parseMethodDescriptor y.desc).map (fun d => d.parameters.length) = some n) (hy : y.name = "<init>")
    (hR : fr + 1 ≤ R.frames ∧ 8 + (mL + 11) + lo ≤ R.locals) (hcs : cells + nc ≤ R.cells ∧ slots + ns ≤ R.slots)
    (isC isR : List Nat) (hC : isC.map (fun i => w[i]?) = wc.map some) (hRr : isR.map (fun i => w[i]?) = wr.map some) (hnd : va_nd isC = true) (hndR : va_nd isR = true) (hdis : ∀ i ∈ isR, i ∉ isC)
    (hn : As.length = n) (hcat : (rest.map fun v => v.category).sum ≤ 8) (hst : st = As.reverse ++ .ref b :: rest) (hdg : decode cc pc = .ok (.invokespecial idx, 3))
    (kk : ∀ (u : S) (H1 : Heap) (locs1 : List Loc), post u → va_P D vwCl (wr ++ wc' u) H1 → va_D A (wr ++ wc' u) → va_S A s.heap H1 locs1 → W p l e R s m args below meth c H1 locs1 (cells + nc) (slots + ns) Q (F0 m (pc + 3) ls rest)) :
    W p l e R s m args below meth c H locs cells slots Q (F0 m pc ls st) := by
  obtain ⟨hx, hb, -, hml, hts, hown, -, hK, hN, hA⟩ := Z
  subst hst
  have hPc := z_sub hP isC hC (A := A)
  have hF := va_free hD hS hA isC hC
  refine va_callv (va_runI (As := As) (rest := rest) ⟨hx, hb, hml, hown, hts⟩ (C H.size) (cwI n hts (z_goodc m5) rfl rfl rfl (hts _ m4) (hts _ m1) (hts _ m2) hy hd hR) ⟨zPre_blind, fun U hU hW => z_pre hK hN hPc (hD.sub isC hnd hC) U hU hW⟩ rfl hn hls rfl (lv_room hcat) hdg hcs) hS (fun q _ h => hF q h) hF (fun u t H1 locs ht hvm hw hB hz1 hk1 hS => ?_)
  obtain ⟨hB1, hB2⟩ := hB
  rw [ht] at hB1
  obtain ⟨hP1, hD1⟩ := va_join hP hD isC isR hC hRr hndR hdis hk1 hF hB1 hB2
  exact kk u H1 locs hw hP1 hD1 hS
theorem z_callCN {host : String} {post : S → Prop} (Z : zAt p s m args meth c D cI cZ A own cc nL ret) (hP : va_P D vwCl w H) (hD : va_D A w) (hS : va_S A s.heap H locs) (hls : ls.size = nL)
    (C : zC l y bytes mL fr lo nc ns D cI cZ (.ref b :: As) wc post wc')
    (m1 : Cond.methodLinkNest own idx y host ∈ zN) (m2 : Cond.instanceMethod y ∈ zT) (m4 : Cond.initialized y.cls ∈ zT) (m5 : Cond.code y bytes mL none ∈ zT)
    (hd : y.cls ≠ "java/lang/invoke/MethodHandle" ∧ y.cls ≠ "java/lang/invoke/VarHandle" ∧ (parseMethodDescriptor y.desc).map (fun d => d.parameters.length) = some n) (hy : y.name = "<init>")
    (hR : fr + 1 ≤ R.frames ∧ 8 + (mL + 11) + lo ≤ R.locals) (hcs : cells + nc ≤ R.cells ∧ slots + ns ≤ R.slots)
    (isC isR : List Nat) (hC : isC.map (fun i => w[i]?) = wc.map some) (hRr : isR.map (fun i => w[i]?) = wr.map some) (hnd : va_nd isC = true) (hndR : va_nd isR = true) (hdis : ∀ i ∈ isR, i ∉ isC)
    (hn : As.length = n) (hcat : (rest.map fun v => v.category).sum ≤ 8) (hst : st = As.reverse ++ .ref b :: rest) (hdg : decode cc pc = .ok (.invokespecial idx, 3))
    (kk : ∀ (u : S) (H1 : Heap) (locs1 : List Loc), post u → va_P D vwCl (wr ++ wc' u) H1 → va_D A (wr ++ wc' u) → va_S A s.heap H1 locs1 → W p l e R s m args below meth c H1 locs1 (cells + nc) (slots + ns) Q (F0 m (pc + 3) ls rest)) :
    W p l e R s m args below meth c H locs cells slots Q (F0 m pc ls st) := by
  obtain ⟨hx, hb, -, hml, hts, hown, -, hK, hN, hA⟩ := Z
  subst hst
  have hPc := z_sub hP isC hC (A := A)
  have hF := va_free hD hS hA isC hC
  refine va_callv (va_runIN (As := As) (rest := rest) ⟨hx, hb, hml, hown, hts⟩ (C H.size) ⟨va_cnB n hts (z_goodc m5) rfl rfl rfl (hN _ m1) (hts _ m4) hd hR, hy, hts _ m2⟩ ⟨zPre_blind, fun U hU hW => z_pre hK hN hPc (hD.sub isC hnd hC) U hU hW⟩ rfl hn hls rfl (lv_room hcat) hdg hcs) hS (fun q _ h => hF q h) hF (fun u t H1 locs ht hvm hw hB hz1 hk1 hS => ?_)
  obtain ⟨hB1, hB2⟩ := hB
  rw [ht] at hB1
  obtain ⟨hP1, hD1⟩ := va_join hP hD isC isR hC hRr hndR hdis hk1 hF hB1 hB2
  exact kk u H1 locs hw hP1 hD1 hS
theorem z_cret {post : S → Prop} {w' : S → va_W} (Z : zAt p s m args meth c D cI cZ A own cc nL none) (u : S) (hpost : post u) (hP : va_P D vwCl (w' u) H) (hD : va_D A (w' u)) (hS : va_S A s.heap H locs) (hdg : decode cc pc = .ok (.return_, 1)) :
    W p l e R s m args below meth c H locs cells slots (MQ below (va_Qv post (fun u t => va_P D vwCl (w' u) t.heap ∧ va_D A (w' u)) A) args s cells slots A) (F0 m pc ls []) := by
  obtain ⟨hx, hb, hr, -, -, -, hlocks, -, -, -⟩ := Z
  exact W.vret hx hb hr (fun t ht hW => ⟨⟨u, rfl, hpost, by rw [ht]; exact hP, hD⟩, hS.F ht⟩) hS.2.2 hdg hlocks
end ZM
