/-! The layer: contracts of methods that make nothing, over worlds that are lists of cells; calls that put the callee's cells back in their places. -/
def z_nest : Cond → Bool
  | .fieldLinkNest _ _ _ _ _ _ => true
  | .methodLinkNest _ _ _ _ => true
  | _ => false
theorem zN_nest : zN.all z_nest = true := by decide +kernel
theorem z_nw_warm {x : Cond} (hx : z_nest x = true) {s U : State} (hW : s.WarmedH U.vm) (h : va_Nw x s) : va_Nw x U := by
  cases x <;> simp [z_nest] at hx
  · first | exact va_Nw.warmM hW h | exact va_Nw.warmF hW h
  · first | exact va_Nw.warmM hW h | exact va_Nw.warmF hW h
theorem z_nw_same {x : Cond} (hx : z_nest x = true) {s U : State} (hW : s.vm = U.vm) (h : va_Nw x s) : va_Nw x U := by
  cases x <;> simp [z_nest] at hx
  · exact va_Nw.same rfl hW h
  · exact va_Nw.same rfl hW h
/-- what a method finds -/
def zPre (D : va_G) (cI cZ : ClassId) (w : va_W) (sz : Nat) (U : State) : Prop :=
  U.heap.size = sz ∧ va_P D vwCl w U.heap ∧ va_K D vwCl [(cI, .int), (cZ, .boolean)] U ∧ va_D (fun _ => True) w ∧ ∀ x ∈ zN, va_Nw x U
theorem zPre_blind {as : List Value} {D : va_G} {cI cZ : ClassId} {w : va_W} {sz : Nat} : FrameBlind (va_Pc as (zPre D cI cZ w sz)) := by
  intro a U g mk h
  obtain ⟨h1, h2, h3, h4, h5, h6⟩ := h
  exact ⟨h1, h2, h3, va_K.moved (u := U) (U := U.calling g mk a) (Vm.Alike.refl U.vm) h4, h5, fun x hx => z_nw_same (s := U) (U := U.calling g mk a) (List.all_eq_true.mp zN_nest x hx) rfl (h6 x hx)⟩
def zI {S : Type} (l : Launch) (y : MethodName) (cc : ByteArray) (nL : Nat) (rt : FieldType) (fr lo : Nat) (D : va_G) (cI cZ : ClassId) (as : List Value) (w : va_W) (post : Int32 → S → Prop) (w' : S → va_W) : Prop :=
  ∀ sz : Nat, Met l y (Cond.code y cc nL (some rt) :: zT) { frames := fr, cells := 0, slots := 0, locals := lo } (va_Pc as (zPre D cI cZ w sz)) (va_Qi post (fun u t => va_P D vwCl (w' u) t.heap) (va_A w sz)) 0 0 (va_A w sz)
def zL {S : Type} (l : Launch) (y : MethodName) (cc : ByteArray) (nL : Nat) (rt : FieldType) (fr lo : Nat) (D : va_G) (cI cZ : ClassId) (as : List Value) (w : va_W) (post : Int64 → S → Prop) (w' : S → va_W) : Prop :=
  ∀ sz : Nat, Met l y (Cond.code y cc nL (some rt) :: zT) { frames := fr, cells := 0, slots := 0, locals := lo } (va_Pc as (zPre D cI cZ w sz)) (va_Ql post (fun u t => va_P D vwCl (w' u) t.heap) (va_A w sz)) 0 0 (va_A w sz)
def zV {S : Type} (l : Launch) (y : MethodName) (cc : ByteArray) (nL : Nat) (fr lo : Nat) (D : va_G) (cI cZ : ClassId) (as : List Value) (w : va_W) (post : S → Prop) (w' : S → va_W) : Prop :=
  ∀ sz : Nat, Met l y (Cond.code y cc nL none :: zT) { frames := fr, cells := 0, slots := 0, locals := lo } (va_Pc as (zPre D cI cZ w sz)) (va_Qv post (fun u t => va_P D vwCl (w' u) t.heap) (va_A w sz)) 0 0 (va_A w sz)
/-- what holds while a method runs -/
def zAt (p : Program) (s : State) (m : MethodId) (args : Array Value) (meth : Method) (c : Code) (D : va_G) (cI cZ : ClassId) (A : Nat → Prop) (C : String) (cc : ByteArray) (nL : Nat) (ret : Option FieldType) : Prop :=
  p.tables.exec = Jvm.exec ∧ c.code = cc ∧ meth.sig.returnType = ret ∧ c.maxLocals = nL ∧ (∀ x ∈ zT, x.before args s = true) ∧ s.vm.findClass C = some m.cls ∧ meth.locks = false ∧ va_K D vwCl [(cI, .int), (cZ, .boolean)] s ∧ (∀ x ∈ zN, va_Nw x s) ∧ (∀ q, s.heap.size ≤ q → A q)
theorem zI_of {S : Type} {l : Launch} {y : MethodName} {cc : ByteArray} {nL : Nat} {rt : FieldType} {fr lo : Nat} {D : va_G} {cI cZ : ClassId} {as : List Value} {w : va_W} {post : Int32 → S → Prop} {w' : S → va_W} (hy : plainName y.cls = true) (hL : (lg_sl as).length ≤ nL)
    (body : ∀ (p : Program) (e : Env) (s : State) (m : MethodId) (args : Array Value) (below : List Frame) (meth : Method) (c : Code) (A : Nat → Prop) (ls : Array Slot),
      zAt p s m args meth c D cI cZ A y.cls cc nL (some rt) → va_P D vwCl w s.heap → va_D A w → va_S A s.heap s.heap [] → lv_has ls nL (lv_args 0 as) →
      W p l e { frames := fr, cells := 0, slots := 0, locals := lo } s m args below meth c s.heap [] 0 0 (MQ below (va_Qi post (fun u t => va_P D vwCl (w' u) t.heap) A) args s 0 0 A) (F0 m 0 ls [])) :
    zI l y cc nL rt fr lo D cI cZ as w post w' := by
  intro sz
  refine Met.ofW (cc := cc) (maxL := nL) (ret := some rt) hy rfl ?_
  intro p e s m args below meth c s₁ B hml hv
  obtain ⟨rfl, hsz, hP, hK, hD0, hN⟩ := hv
  subst hsz
  have hts := atoms_spec (ws := Cond.code y cc nL (some rt) :: zT) B.pre
  rw [lg_entry_eq]
  exact body p e s m _ below meth c (va_A w s.heap.size) _ ⟨B.exec, B.bytes, B.returns, hml, (fun x hx => hts x (List.mem_cons_of_mem _ hx)), (findClass_of_methodNamed B.named), B.notSynchronized, hK, hN, (fun q h => Or.inr h)⟩ hP hD0.self va_S.rf (lv_entry as hL)
theorem zL_of {S : Type} {l : Launch} {y : MethodName} {cc : ByteArray} {nL : Nat} {rt : FieldType} {fr lo : Nat} {D : va_G} {cI cZ : ClassId} {as : List Value} {w : va_W} {post : Int64 → S → Prop} {w' : S → va_W} (hy : plainName y.cls = true) (hL : (lg_sl as).length ≤ nL)
    (body : ∀ (p : Program) (e : Env) (s : State) (m : MethodId) (args : Array Value) (below : List Frame) (meth : Method) (c : Code) (A : Nat → Prop) (ls : Array Slot),
      zAt p s m args meth c D cI cZ A y.cls cc nL (some rt) → va_P D vwCl w s.heap → va_D A w → va_S A s.heap s.heap [] → lv_has ls nL (lv_args 0 as) →
      W p l e { frames := fr, cells := 0, slots := 0, locals := lo } s m args below meth c s.heap [] 0 0 (MQ below (va_Ql post (fun u t => va_P D vwCl (w' u) t.heap) A) args s 0 0 A) (F0 m 0 ls [])) :
    zL l y cc nL rt fr lo D cI cZ as w post w' := by
  intro sz
  refine Met.ofW (cc := cc) (maxL := nL) (ret := some rt) hy rfl ?_
  intro p e s m args below meth c s₁ B hml hv
  obtain ⟨rfl, hsz, hP, hK, hD0, hN⟩ := hv
  subst hsz
  have hts := atoms_spec (ws := Cond.code y cc nL (some rt) :: zT) B.pre
  rw [lg_entry_eq]
  exact body p e s m _ below meth c (va_A w s.heap.size) _ ⟨B.exec, B.bytes, B.returns, hml, (fun x hx => hts x (List.mem_cons_of_mem _ hx)), (findClass_of_methodNamed B.named), B.notSynchronized, hK, hN, (fun q h => Or.inr h)⟩ hP hD0.self va_S.rf (lv_entry as hL)
theorem zV_of {S : Type} {l : Launch} {y : MethodName} {cc : ByteArray} {nL : Nat} {fr lo : Nat} {D : va_G} {cI cZ : ClassId} {as : List Value} {w : va_W} {post : S → Prop} {w' : S → va_W} (hy : plainName y.cls = true) (hL : (lg_sl as).length ≤ nL)
    (body : ∀ (p : Program) (e : Env) (s : State) (m : MethodId) (args : Array Value) (below : List Frame) (meth : Method) (c : Code) (A : Nat → Prop) (ls : Array Slot),
      zAt p s m args meth c D cI cZ A y.cls cc nL none → va_P D vwCl w s.heap → va_D A w → va_S A s.heap s.heap [] → lv_has ls nL (lv_args 0 as) →
      W p l e { frames := fr, cells := 0, slots := 0, locals := lo } s m args below meth c s.heap [] 0 0 (MQ below (va_Qv post (fun u t => va_P D vwCl (w' u) t.heap) A) args s 0 0 A) (F0 m 0 ls [])) :
    zV l y cc nL fr lo D cI cZ as w post w' := by
  intro sz
  refine Met.ofW (cc := cc) (maxL := nL) (ret := none) hy rfl ?_
  intro p e s m args below meth c s₁ B hml hv
  obtain ⟨rfl, hsz, hP, hK, hD0, hN⟩ := hv
  subst hsz
  have hts := atoms_spec (ws := Cond.code y cc nL none :: zT) B.pre
  rw [lg_entry_eq]
  exact body p e s m _ below meth c (va_A w s.heap.size) _ ⟨B.exec, B.bytes, B.returns, hml, (fun x hx => hts x (List.mem_cons_of_mem _ hx)), (findClass_of_methodNamed B.named), B.notSynchronized, hK, hN, (fun q h => Or.inr h)⟩ hP hD0.self va_S.rf (lv_entry as hL)
/-- the callee's cells, put back in their places -/
def zput : va_W → List Nat → va_W → va_W
  | w, i :: is, c :: cs => zput (w.set i c) is cs
  | w, _, _ => w
theorem zput_len : ∀ (is : List Nat) (cs w : va_W), (zput w is cs).length = w.length
  | [], _, _ => by simp [zput]
  | _ :: _, [], _ => by simp [zput]
  | i :: is, c :: cs, w => by rw [zput, zput_len is cs]; simp
theorem zput_out : ∀ (is : List Nat) (cs w : va_W) (k : Nat), k ∉ is → (zput w is cs)[k]? = w[k]?
  | [], _, _, _, _ => by simp [zput]
  | _ :: _, [], _, _, _ => by simp [zput]
  | i :: is, c :: cs, w, k, h => by
    rw [zput, zput_out is cs _ k (fun q => h (List.mem_cons_of_mem _ q)), List.getElem?_set_ne]
    exact fun q => h (by rw [q]; exact List.mem_cons_self)
theorem zput_in : ∀ (is : List Nat) (cs w : va_W) (j k : Nat) (c : Nat × va_E), va_nd is = true → is[j]? = some k → cs[j]? = some c → k < w.length → (zput w is cs)[k]? = some c
  | [], _, _, j, _, _, _, h, _, _ => by simp at h
  | _ :: _, [], _, j, _, _, _, _, h, _ => by simp at h
  | i :: is, d :: cs, w, j, k, c, hn, h1, h2, hk => by
    simp only [va_nd, Bool.and_eq_true, decide_eq_true_eq] at hn
    rw [zput]
    cases j with
    | zero =>
      simp only [List.getElem?_cons_zero, Option.some.injEq] at h1 h2
      subst h1; subst h2
      rw [zput_out is cs _ i hn.1, List.getElem?_set_self hk]
    | succ j =>
      rw [List.getElem?_cons_succ] at h1 h2
      exact zput_in is cs _ j k c hn.2 h1 h2 (by simpa using hk)
theorem z_at' {ws : va_W} {is : List Nat} {w : va_W} (hs : is.map (fun i => ws[i]?) = w.map some) (k : Nat) (q : Nat × va_E) (hq : w[k]? = some q) : ∃ i, is[k]? = some i ∧ ws[i]? = some q := by
  have h1 : (is.map (fun i => ws[i]?))[k]? = some (some q) := by rw [hs, List.getElem?_map, hq]; rfl
  rw [List.getElem?_map] at h1
  cases hi : is[k]? with
  | none => rw [hi] at h1; cases h1
  | some i => rw [hi] at h1; exact ⟨i, rfl, Option.some.inj h1⟩
theorem z_at2 {ws : va_W} {is : List Nat} {w : va_W} (hs : is.map (fun i => ws[i]?) = w.map some) (k i : Nat) (hi : is[k]? = some i) : ∃ q, w[k]? = some q ∧ ws[i]? = some q := by
  have h1 : (w.map some)[k]? = some (ws[i]?) := by rw [← hs, List.getElem?_map, hi]; rfl
  rw [List.getElem?_map] at h1
  cases hq : w[k]? with
  | none => rw [hq] at h1; cases h1
  | some q => rw [hq] at h1; exact ⟨q, rfl, (Option.some.inj h1).symm⟩
theorem z_fst {w1 wc : va_W} (hf : w1.map Prod.fst = wc.map Prod.fst) (k : Nat) (q : Nat × va_E) (h : wc[k]? = some q) : ∃ c, w1[k]? = some c ∧ c.1 = q.1 := by
  have h1 : (w1.map Prod.fst)[k]? = some q.1 := by rw [hf, List.getElem?_map, h]; rfl
  rw [List.getElem?_map] at h1
  cases hc : w1[k]? with
  | none => rw [hc] at h1; cases h1
  | some c => rw [hc] at h1; exact ⟨c, rfl, Option.some.inj h1⟩
theorem zjoin {A : Nat → Prop} {D : va_G} {cl : List vw_C} {w wc w1 : va_W} {H H1 : Heap} (hP : va_P D cl w H) (hD : va_D A w) (isC : List Nat) (hn : va_nd isC = true) (hC : isC.map (fun i => w[i]?) = wc.map some) (hf : w1.map Prod.fst = wc.map Prod.fst)
    (hP1 : va_P D cl w1 H1) (hk : ∀ q : Nat, q < H.size → ¬ va_A wc H.size q → H1[q]? = H[q]?) : va_P D cl (zput w isC w1) H1 ∧ va_D A (zput w isC w1) := by
  have key : ∀ (k : Nat) (x : Nat × va_E), (zput w isC w1)[k]? = some x → (∃ (j : Nat) (y : Nat × va_E), w1[j]? = some x ∧ w[k]? = some y ∧ y.1 = x.1) ∨ (k ∉ isC ∧ w[k]? = some x) := by
    intro k x hx
    by_cases hm : k ∈ isC
    · obtain ⟨j, hj⟩ := List.getElem?_of_mem hm
      obtain ⟨q, hq, hwq⟩ := z_at2 hC j k hj
      obtain ⟨c, hc, hcq⟩ := z_fst hf j q hq
      have hl : k < w.length := (List.getElem?_eq_some_iff.mp hwq).1
      have hz := zput_in isC w1 w j k c hn hj hc hl
      rw [hx] at hz
      cases hz
      exact Or.inl ⟨j, q, hc, hwq, hcq.symm⟩
    · rw [zput_out isC w1 w k hm] at hx
      exact Or.inr ⟨hm, hx⟩
  refine ⟨fun k x hx => ?_, fun i j x y hi hj hxy => ?_, fun k x hx => ?_⟩
  · rcases key k x hx with ⟨j, y, h1, -, -⟩ | ⟨hm, h1⟩
    · exact hP1 j x h1
    · have hl := (hP k x h1).lt
      refine (hP k x h1).kept (hk x.1 hl (fun h => ?_))
      rcases h with ⟨k2, e, h⟩ | h
      · obtain ⟨i, h3, h4⟩ := z_at' hC k2 (x.1, e) h
        have hij := hD.1 k i x (x.1, e) h1 h4 rfl
        subst hij
        exact hm (List.mem_of_getElem? h3)
      · omega
  · have hi' : ∃ y : Nat × va_E, w[i]? = some y ∧ y.1 = x.1 := by
      rcases key i x hi with ⟨_, y, _, h2, h3⟩ | ⟨_, h2⟩
      · exact ⟨y, h2, h3⟩
      · exact ⟨x, h2, rfl⟩
    have hj' : ∃ z : Nat × va_E, w[j]? = some z ∧ z.1 = y.1 := by
      rcases key j y hj with ⟨_, z, _, h2, h3⟩ | ⟨_, h2⟩
      · exact ⟨z, h2, h3⟩
      · exact ⟨y, h2, rfl⟩
    obtain ⟨a, ha, ha1⟩ := hi'
    obtain ⟨b, hb, hb1⟩ := hj'
    exact hD.1 i j a b ha hb (by rw [ha1, hb1, hxy])
  · rcases key k x hx with ⟨_, y, _, h2, h3⟩ | ⟨_, h2⟩
    · rw [← h3]; exact hD.2 k y h2
    · exact hD.2 k x h2
theorem z_sub {A : Nat → Prop} {w wc : va_W} {D : va_G} {cl : List vw_C} {H : Heap} (hP : va_P D cl w H) (isC : List Nat) (hC : isC.map (fun i => w[i]?) = wc.map some) : va_P D cl wc H := by
  intro k q hk
  obtain ⟨i, -, hi⟩ := z_at' hC k q hk
  exact hP i q hi
theorem z_good {b : List Cond} (hb : ∀ x ∈ b, x ∈ zT) : GoodIn zT b := fun x hx => ⟨hb x hx, good_of_word (List.all_eq_true.mp zT_good x (hb x hx))⟩
theorem z_goodc {y : Cond} (hc : y ∈ zT) : GoodIn zT (y :: zT) := z_good (fun x hx => (List.mem_cons.mp hx).elim (fun e => by rw [e]; exact hc) id)
theorem z_gV {own Cn : String} {idx : Nat} {y : MethodName} {c : Cond} (m1 : Cond.methodLink own idx y ∈ zT) (m2 : Cond.instanceMethod y ∈ zT) (m3 : Cond.selects Cn y y ∈ zT) (m4 : Cond.initialized Cn ∈ zT) (m5 : c ∈ zT) : GoodIn zT (wsV own idx Cn y (c :: zT)) := by
  refine z_good (fun x hx => ?_)
  unfold wsV at hx
  simp only [List.cons_append, List.nil_append, List.mem_cons] at hx
  rcases hx with rfl | rfl | rfl | rfl | rfl | h
  · exact m1
  · exact m2
  · exact m3
  · exact m4
  · exact m5
  · exact h
theorem z_gS {own : String} {idx : Nat} {y : MethodName} {c : Cond} (m1 : Cond.methodLink own idx y ∈ zT) (m2 : Cond.static y ∈ zT) (m4 : Cond.initialized y.cls ∈ zT) (m5 : c ∈ zT) : GoodIn zT (va_wsS own idx y (c :: zT)) := by
  refine z_good (fun x hx => ?_)
  unfold va_wsS at hx
  simp only [List.cons_append, List.nil_append, List.mem_cons] at hx
  rcases hx with rfl | rfl | rfl | rfl | h
  · exact m1
  · exact m2
  · exact m4
  · exact m5
  · exact h
