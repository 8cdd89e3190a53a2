/-! Rows of the layer: fields, arrays, calls, ends; zAt carries what stays. -/
section ZR
variable {p : Program} {l : Launch} {e : Env} {R : Room} {s : State} {m : MethodId} {args : Array Value} {below : List Frame} {meth : Method} {c : Code} {H : Heap} {locs : List Loc} {cells slots : Nat} {Q : State → Prop}
variable {D : va_G} {cI cZ : ClassId} {A : Nat → Prop} {own : String} {cc : ByteArray} {nL : Nat} {ret : Option FieldType} {pc : Nat} {ls : Array Slot} {rest : List Value} {w : va_W} {a : Nat}
theorem z_top {x y : Int32} (h : x = y) (k : W p l e R s m args below meth c H locs cells slots Q (F0 m pc ls (.int y :: rest))) : W p l e R s m args below meth c H locs cells slots Q (F0 m pc ls (.int x :: rest)) := by rw [h]; exact k
theorem z_topl {x y : Int64} (h : x = y) (k : W p l e R s m args below meth c H locs cells slots Q (F0 m pc ls (.long y :: rest))) : W p l e R s m args below meth c H locs cells slots Q (F0 m pc ls (.long x :: rest)) := by rw [h]; exact k
theorem z_add (i j : Nat) : nI i + nI j = nI (i + j) := nI_add i j
theorem z_sub' {i j : Nat} (h : j ≤ i) : nI i - nI j = nI (i - j) := pk_sub h
theorem z_mul (i j : Nat) : nI i * nI j = nI (i * j) := pk_mul i j
theorem z_inc (i n : Nat) : nI i + Int32.ofInt (n : Int) = nI (i + n) := by
  rw [← nI_add]; rfl
theorem z_get (Z : zAt p s m args meth c D cI cZ A own cc nL ret) {C ref : String} {T : u_T} {N ci index : Nat} (hin : ∀ x ∈ u_ws C T N, x ∈ zT) (hP : va_P D vwCl w H) (q0 : Nat) {fs : List Value} (he : w[q0]? = some (a, .inr (ci, fs))) (hc : vwCl[ci]? = some (C, T, N)) (k : Nat) (hk : k < N)
    (hm : Cond.fieldLink own index ref (T k).2.1 (T k).2.2.1 ∈ zT) (hs : (T k).1 = ref) {v : Value} (hv : fs[k]? = some v) (hdg : decode cc pc = .ok (.getfield index, 3))
    (kk : W p l e R s m args below meth c H locs cells slots Q (F0 m (pc + 3) ls (v :: rest))) : W p l e R s m args below meth c H locs cells slots Q (F0 m pc ls (.ref a :: rest)) := by
  obtain ⟨hx, hb, -, -, hts, hown, -, hK, -, -⟩ := Z
  exact va_get hx hb hts hin hown hK hP q0 he hc k hk (hts _ hm) (fun x h => by rw [← hs]; exact h) hv hdg kk
theorem z_getN (Z : zAt p s m args meth c D cI cZ A own cc nL ret) {C ref host : String} {T : u_T} {N ci index : Nat} (hin : ∀ x ∈ u_ws C T N, x ∈ zT) (hP : va_P D vwCl w H) (q0 : Nat) {fs : List Value} (he : w[q0]? = some (a, .inr (ci, fs))) (hc : vwCl[ci]? = some (C, T, N)) (k : Nat) (hk : k < N)
    (hm : Cond.fieldLinkNest own index ref (T k).2.1 (T k).2.2.1 host ∈ zN) (hs : (T k).1 = ref) {v : Value} (hv : fs[k]? = some v) (hdg : decode cc pc = .ok (.getfield index, 3))
    (kk : W p l e R s m args below meth c H locs cells slots Q (F0 m (pc + 3) ls (v :: rest))) : W p l e R s m args below meth c H locs cells slots Q (F0 m pc ls (.ref a :: rest)) := by
  obtain ⟨hx, hb, -, -, hts, hown, -, hK, hN, -⟩ := Z
  exact va_getN hx hb hts hin hown hK hP q0 he hc k hk (va_Nw.use rfl (hN _ hm)) (fun x h => by rw [← hs]; exact h) hv hdg kk
theorem z_put (Z : zAt p s m args meth c D cI cZ A own cc nL ret) {C ref : String} {T : u_T} {N ci index : Nat} (hin : ∀ x ∈ u_ws C T N, x ∈ zT) (ty0 : Nat → FieldType) (hty : ∀ k, k < N → parseFieldDescriptor (T k).2.2.1 = some (ty0 k)) (hnm : ∀ a, a < N → ∀ b, b < N → a ≠ b → (T a).2.1 ≠ (T b).2.1) (hP : va_P D vwCl w H) (hD : va_D A w) (hS : va_S A s.heap H locs) (q0 : Nat) {fs : List Value} (he : w[q0]? = some (a, .inr (ci, fs))) (hc : vwCl[ci]? = some (C, T, N)) (k : Nat) (hk : k < N)
    (hm : Cond.fieldLink own index ref (T k).2.1 (T k).2.2.1 ∈ zT) (hs : (T k).1 = ref) (hfin : (T k).2.2.2 = false) {v : Value} (hn : narrow (ty0 k) v = v) (hfit : fits (ty0 k) v = true) (hl : k < fs.length) (hdg : decode cc pc = .ok (.putfield index, 3))
    (kk : ∀ (H1 : Heap) (locs1 : List Loc), va_P D vwCl (w.set q0 (a, .inr (ci, fs.set k v))) H1 → va_D A (w.set q0 (a, .inr (ci, fs.set k v))) → va_S A s.heap H1 locs1 → W p l e R s m args below meth c H1 locs1 cells slots Q (F0 m (pc + 3) ls rest)) : W p l e R s m args below meth c H locs cells slots Q (F0 m pc ls (v :: .ref a :: rest)) := by
  obtain ⟨hx, hb, -, -, hts, hown, -, hK, -, -⟩ := Z
  exact va_put hx hb hts hin ty0 hty hnm hown hK hP hD hS q0 he hc k hk (hts _ hm) (fun x h => by rw [← hs]; exact h) hfin (hty k hk) hn hfit hl hdg kk
theorem z_putN (Z : zAt p s m args meth c D cI cZ A own cc nL ret) {C ref host : String} {T : u_T} {N ci index : Nat} (hin : ∀ x ∈ u_ws C T N, x ∈ zT) (ty0 : Nat → FieldType) (hty : ∀ k, k < N → parseFieldDescriptor (T k).2.2.1 = some (ty0 k)) (hnm : ∀ a, a < N → ∀ b, b < N → a ≠ b → (T a).2.1 ≠ (T b).2.1) (hP : va_P D vwCl w H) (hD : va_D A w) (hS : va_S A s.heap H locs) (q0 : Nat) {fs : List Value} (he : w[q0]? = some (a, .inr (ci, fs))) (hc : vwCl[ci]? = some (C, T, N)) (k : Nat) (hk : k < N)
    (hm : Cond.fieldLinkNest own index ref (T k).2.1 (T k).2.2.1 host ∈ zN) (hs : (T k).1 = ref) (hfin : (T k).2.2.2 = false) {v : Value} (hn : narrow (ty0 k) v = v) (hfit : fits (ty0 k) v = true) (hl : k < fs.length) (hdg : decode cc pc = .ok (.putfield index, 3))
    (kk : ∀ (H1 : Heap) (locs1 : List Loc), va_P D vwCl (w.set q0 (a, .inr (ci, fs.set k v))) H1 → va_D A (w.set q0 (a, .inr (ci, fs.set k v))) → va_S A s.heap H1 locs1 → W p l e R s m args below meth c H1 locs1 cells slots Q (F0 m (pc + 3) ls rest)) : W p l e R s m args below meth c H locs cells slots Q (F0 m pc ls (v :: .ref a :: rest)) := by
  obtain ⟨hx, hb, -, -, hts, hown, -, hK, hN, -⟩ := Z
  exact va_putN hx hb hts hin ty0 hty hnm hown hK hP hD hS q0 he hc k hk (va_Nw.use rfl (hN _ hm)) (fun x h => by rw [← hs]; exact h) hfin (hty k hk) hn hfit hl hdg kk
theorem z_putF (Z : zAt p s m args meth c D cI cZ A own cc nL ret) {C ref : String} {T : u_T} {N ci index : Nat} (hin : ∀ x ∈ u_ws C T N, x ∈ zT) (ty0 : Nat → FieldType) (hty : ∀ k, k < N → parseFieldDescriptor (T k).2.2.1 = some (ty0 k)) (hnm : ∀ a, a < N → ∀ b, b < N → a ≠ b → (T a).2.1 ≠ (T b).2.1) (hP : va_P D vwCl w H) (hD : va_D A w) (hS : va_S A s.heap H locs) (q0 : Nat) {fs : List Value} (he : w[q0]? = some (a, .inr (ci, fs))) (hc : vwCl[ci]? = some (C, T, N)) (k : Nat) (hk : k < N)
    (hm : Cond.fieldLink own index ref (T k).2.1 (T k).2.2.1 ∈ zT) (hs : (T k).1 = ref) (hfin : (T k).2.2.2 = true) (hin2 : meth.name = "<init>") (hdecl : (T k).1 = own) {v : Value} (hn : narrow (ty0 k) v = v) (hfit : fits (ty0 k) v = true) (hl : k < fs.length) (hdg : decode cc pc = .ok (.putfield index, 3))
    (kk : ∀ (H1 : Heap) (locs1 : List Loc), va_P D vwCl (w.set q0 (a, .inr (ci, fs.set k v))) H1 → va_D A (w.set q0 (a, .inr (ci, fs.set k v))) → va_S A s.heap H1 locs1 → W p l e R s m args below meth c H1 locs1 cells slots Q (F0 m (pc + 3) ls rest)) : W p l e R s m args below meth c H locs cells slots Q (F0 m pc ls (v :: .ref a :: rest)) := by
  obtain ⟨hx, hb, -, -, hts, hown, -, hK, -, -⟩ := Z
  exact va_putF hx hb hts hin ty0 hty hnm hown hK hP hD hS q0 he hc k hk (hts _ hm) (fun x h => by rw [← hs]; exact h) hfin hin2 hdecl (hty k hk) hn hfit hl hdg kk
theorem z_iald (Z : zAt p s m args meth c D cI cZ A own cc nL ret) (hP : va_P D vwCl w H) (q0 : Nat) {n : Nat} {f : Nat → Int32} (ha : w[q0]? = some (a, .inl (cI, n, .inl f))) {j : Nat} (hj : j < n) (hn : n < 2 ^ 31) (hdg : decode cc pc = .ok (.iaload, 1))
    (kk : W p l e R s m args below meth c H locs cells slots Q (F0 m (pc + 1) ls (.int (f j) :: rest))) : W p l e R s m args below meth c H locs cells slots Q (F0 m pc ls (.int (nI j) :: .ref a :: rest)) := by
  obtain ⟨hx, hb, -, -, -, -, -, hK, -, -⟩ := Z
  exact va_iald hx hb hK hP q0 0 ha rfl (vp_in_nI hj hn) hdg (by rw [nI_clamp (by omega)]; exact kk)
theorem z_iast (Z : zAt p s m args meth c D cI cZ A own cc nL ret) (hP : va_P D vwCl w H) (hD : va_D A w) (hS : va_S A s.heap H locs) (q0 : Nat) {n : Nat} {f : Nat → Int32} (ha : w[q0]? = some (a, .inl (cI, n, .inl f))) {j : Nat} {x : Int32} (hj : j < n) (hn : n < 2 ^ 31) (hdg : decode cc pc = .ok (.iastore, 1))
    (kk : ∀ (H1 : Heap) (locs1 : List Loc), va_P D vwCl (w.set q0 (a, .inl (cI, n, .inl (upd f j x)))) H1 → va_D A (w.set q0 (a, .inl (cI, n, .inl (upd f j x)))) → va_S A s.heap H1 locs1 → W p l e R s m args below meth c H1 locs1 cells slots Q (F0 m (pc + 1) ls rest)) : W p l e R s m args below meth c H locs cells slots Q (F0 m pc ls (.int x :: .int (nI j) :: .ref a :: rest)) := by
  obtain ⟨hx, hb, -, -, -, -, -, hK, -, -⟩ := Z
  exact va_iast hx hb hK hP hD hS q0 0 ha rfl (vp_in_nI hj hn) hdg (by rw [nI_clamp (by omega)]; exact kk)
theorem z_zald (Z : zAt p s m args meth c D cI cZ A own cc nL ret) (hP : va_P D vwCl w H) (q0 : Nat) {n : Nat} {f : Nat → Int32} (ha : w[q0]? = some (a, .inl (cZ, n, .inl f))) {j : Nat} (hj : j < n) (hn : n < 2 ^ 31) (hdg : decode cc pc = .ok (.baload, 1))
    (kk : W p l e R s m args below meth c H locs cells slots Q (F0 m (pc + 1) ls (.int (f j) :: rest))) : W p l e R s m args below meth c H locs cells slots Q (F0 m pc ls (.int (nI j) :: .ref a :: rest)) := by
  obtain ⟨hx, hb, -, -, -, -, -, hK, -, -⟩ := Z
  exact va_zald hx hb hK hP q0 1 ha rfl (vp_in_nI hj hn) hdg (by rw [nI_clamp (by omega)]; exact kk)
theorem z_zast (Z : zAt p s m args meth c D cI cZ A own cc nL ret) (hP : va_P D vwCl w H) (hD : va_D A w) (hS : va_S A s.heap H locs) (q0 : Nat) {n : Nat} {f : Nat → Int32} (ha : w[q0]? = some (a, .inl (cZ, n, .inl f))) {j : Nat} {x : Int32} (hx1 : x = 0 ∨ x = 1) (hj : j < n) (hn : n < 2 ^ 31) (hdg : decode cc pc = .ok (.bastore, 1))
    (kk : ∀ (H1 : Heap) (locs1 : List Loc), va_P D vwCl (w.set q0 (a, .inl (cZ, n, .inl (upd f j x)))) H1 → va_D A (w.set q0 (a, .inl (cZ, n, .inl (upd f j x)))) → va_S A s.heap H1 locs1 → W p l e R s m args below meth c H1 locs1 cells slots Q (F0 m (pc + 1) ls rest)) : W p l e R s m args below meth c H locs cells slots Q (F0 m pc ls (.int x :: .int (nI j) :: .ref a :: rest)) := by
  obtain ⟨hx, hb, -, -, -, -, -, hK, -, -⟩ := Z
  have hv : vp_nar .boolean x = x := by rcases hx1 with rfl | rfl <;> decide
  exact va_zast hx hb hK hP hD hS q0 1 ha rfl (vp_in_nI hj hn) hdg (by rw [nI_clamp (by omega), hv]; exact kk)
theorem z_copy (Z : zAt p s m args meth c D cI cZ A own cc nL ret) (hls : ls.size = nL) {index : Nat} (hm : Cond.methodLink own index arraycopyName ∈ zT) (hm2 : Cond.native arraycopyName ∈ zT) (hm3 : Cond.static arraycopyName ∈ zT) (hm4 : Cond.initialized "java/lang/System" ∈ zT) (hP : va_P D vwCl w H) (hD : va_D A w) (hS : va_S A s.heap H locs) (q0 q1 : Nat) {a0 : Nat} {n0 n1 : Nat} {f g : Nat → Int32} (ha0 : w[q0]? = some (a0, .inl (cI, n0, .inl f))) (ha1 : w[q1]? = some (a, .inl (cI, n1, .inl g)))
    {sp dp n : Nat} (h1 : sp + n ≤ n0) (h2 : dp + n ≤ n1) (hn0 : n0 < 2 ^ 31) (hn1 : n1 < 2 ^ 31)
    (hframes : 1 ≤ R.frames) (hlocals : (rest.map fun v => v.category).sum + (nativeFrameWords "java/lang/System" "arraycopy" 5 + 11) ≤ R.locals) (hdg : decode cc pc = .ok (.invokestatic index, 3))
    (kk : ∀ (H1 : Heap) (locs1 : List Loc), va_P D vwCl (w.set q1 (a, .inl (cI, n1, .inl (va_cpy f g sp dp n)))) H1 → va_D A (w.set q1 (a, .inl (cI, n1, .inl (va_cpy f g sp dp n)))) → va_S A s.heap H1 locs1 → W p l e R s m args below meth c H1 locs1 cells slots Q (F0 m (pc + 3) ls rest)) : W p l e R s m args below meth c H locs cells slots Q (F0 m pc ls (.int (nI n) :: .int (nI dp) :: .ref a :: .int (nI sp) :: .ref a0 :: rest)) := by
  obtain ⟨hx, hb, -, hml, hts, hown, -, hK, -, -⟩ := Z
  have e1 := nI_clamp (n := sp) (by omega)
  have e2 := nI_clamp (n := dp) (by omega)
  have e3 := nI_clamp (n := n) (by omega)
  refine va_copyi (ty := .int) hx hb (by rw [hml, hls]) hown (hts _ hm) (hts _ hm2) (hts _ hm3) (hts _ hm4) hK hP hD hS q0 q1 0 0 ha0 ha1 rfl rfl rfl (nI_pos (by omega)) (nI_pos (by omega)) (nI_pos (by omega)) (by rw [e1, e3]; exact h1) (by rw [e2, e3]; exact h2) (fun _ _ => rfl) hframes hlocals hdg ?_
  rw [e1, e2, e3]
  exact kk
theorem z_max (Z : zAt p s m args meth c D cI cZ A own cc nL ret) (hls : ls.size = nL) {index : Nat} (hm : Cond.methodLink own index Lib.Math.max.name ∈ zT) (hm3 : Cond.static Lib.Math.max.name ∈ zT) (hm4 : Cond.initialized "java/lang/Math" ∈ zT) (hm5 : Cond.code Lib.Math.max.name Lib.Math.max.code 2 (some .int) ∈ zT)
    (hframes : 1 ≤ R.frames) (hlocals : (rest.map fun v => v.category).sum + 13 ≤ R.locals) (hc : cells ≤ R.cells) (hs : slots ≤ R.slots) {x y : Int32} (hdg : decode cc pc = .ok (.invokestatic index, 3))
    (kk : W p l e R s m args below meth c H locs cells slots Q (F0 m (pc + 3) ls (.int (if x < y then y else x) :: rest))) : W p l e R s m args below meth c H locs cells slots Q (F0 m pc ls (.int y :: .int x :: rest)) := by
  obtain ⟨hx, hb, -, hml, hts, hown, -, hK, -, -⟩ := Z
  exact va_mmax hx hb (by rw [hml, hls]) hown (hts _ hm) (hts _ hm3) (hts _ hm4) (hts _ hm5) hframes hlocals hc hs hdg kk
theorem z_min (Z : zAt p s m args meth c D cI cZ A own cc nL ret) (hls : ls.size = nL) {index : Nat} (hm : Cond.methodLink own index Lib.Math.min.name ∈ zT) (hm3 : Cond.static Lib.Math.min.name ∈ zT) (hm4 : Cond.initialized "java/lang/Math" ∈ zT) (hm5 : Cond.code Lib.Math.min.name Lib.Math.min.code 2 (some .int) ∈ zT)
    (hframes : 1 ≤ R.frames) (hlocals : (rest.map fun v => v.category).sum + 13 ≤ R.locals) (hc : cells ≤ R.cells) (hs : slots ≤ R.slots) {x y : Int32} (hdg : decode cc pc = .ok (.invokestatic index, 3))
    (kk : W p l e R s m args below meth c H locs cells slots Q (F0 m (pc + 3) ls (.int (if y < x then y else x) :: rest))) : W p l e R s m args below meth c H locs cells slots Q (F0 m pc ls (.int y :: .int x :: rest)) := by
  obtain ⟨hx, hb, -, hml, hts, hown, -, hK, -, -⟩ := Z
  exact va_mmin hx hb (by rw [hml, hls]) hown (hts _ hm) (hts _ hm3) (hts _ hm4) (hts _ hm5) hframes hlocals hc hs hdg kk
theorem z_abs (Z : zAt p s m args meth c D cI cZ A own cc nL ret) (hls : ls.size = nL) {index : Nat} (hm : Cond.methodLink own index Lib.Math.abs.name ∈ zT) (hm3 : Cond.static Lib.Math.abs.name ∈ zT) (hm4 : Cond.initialized "java/lang/Math" ∈ zT) (hm5 : Cond.code Lib.Math.abs.name Lib.Math.abs.code 1 (some .int) ∈ zT)
    (hframes : 1 ≤ R.frames) (hlocals : (rest.map fun v => v.category).sum + 13 ≤ R.locals) (hc : cells ≤ R.cells) (hs : slots ≤ R.slots) {x : Int32} (hdg : decode cc pc = .ok (.invokestatic index, 3))
    (kk : W p l e R s m args below meth c H locs cells slots Q (F0 m (pc + 3) ls (.int (if 0 ≤ x then x else 0 - x) :: rest))) : W p l e R s m args below meth c H locs cells slots Q (F0 m pc ls (.int x :: rest)) := by
  obtain ⟨hx, hb, -, hml, hts, hown, -, hK, -, -⟩ := Z
  exact va_mabs hx hb (by rw [hml, hls]) hown (hts _ hm) (hts _ hm3) (hts _ hm4) (hts _ hm5) hframes hlocals hc hs hdg kk
/-- what a callee finds -/
theorem z_pre {As : List Value} {wc : va_W} (hK : va_K D vwCl [(cI, .int), (cZ, .boolean)] s) (hN : ∀ x ∈ zN, va_Nw x s) (hPc : va_P D vwCl wc H) (hDc : va_D A wc) (U : State) (hU : U.heap = H) (hW : s.WarmedH U.vm) : va_Pc As (zPre D cI cZ wc H.size) As.toArray U :=
  ⟨rfl, by rw [hU], by rw [hU]; exact hPc, va_K.moved hW.alike hK, hDc.weaken (fun _ _ _ _ => trivial), fun x hx => z_nw_warm (List.all_eq_true.mp zN_nest x hx) hW (hN x hx)⟩
variable {S : Type} {fr lo mL idx n : Nat} {y : MethodName} {bytes : ByteArray} {rt : FieldType} {As st : List Value} {wc : va_W} {wc' : S → va_W} {Cn : String} {ci k0 b : Nat} {fs : List Value} {q : vw_C}
theorem z_callVi {post : Int32 → S → Prop} (Z : zAt p s m args meth c D cI cZ A own cc nL ret) (hP : va_P D vwCl w H) (hD : va_D A w) (hS : va_S A s.heap H locs) (hls : ls.size = nL)
    (C : zI l y bytes mL rt fr lo D cI cZ (.ref b :: As) wc post wc')
    (m1 : Cond.methodLink own idx y ∈ zT) (m2 : Cond.instanceMethod y ∈ zT) (m3 : Cond.selects Cn y y ∈ zT) (m4 : Cond.initialized Cn ∈ zT) (m5 : Cond.code y bytes mL (some rt) ∈ zT)
    (hd : y.cls = Cn ∧ y.cls ≠ "java/lang/invoke/MethodHandle" ∧ y.cls ≠ "java/lang/invoke/VarHandle" ∧ (parseMethodDescriptor y.desc).map (fun d => d.parameters.length) = some n)
    (hR : fr + 1 ≤ R.frames ∧ 8 + (mL + 11) + lo ≤ R.locals) (hcs : cells ≤ R.cells ∧ slots ≤ R.slots)
    (isC : List Nat) (hC : isC.map (fun i => w[i]?) = wc.map some) (hnd : va_nd isC = true) (hci : vwCl[ci]? = some q) (hq : q.1 = Cn) (hrecv : wc[k0]? = some (b, .inr (ci, fs)))
    (hfst : ∀ u, (wc' u).map Prod.fst = wc.map Prod.fst) (hn : As.length = n) (hcat : (rest.map fun v => v.category).sum ≤ 8) (hst : st = As.reverse ++ .ref b :: rest) (hdg : decode cc pc = .ok (.invokevirtual idx, 3))
    (kk : ∀ (r : Int32) (u : S) (H1 : Heap) (locs1 : List Loc), post r u → va_P D vwCl (zput w isC (wc' u)) H1 → va_D A (zput w isC (wc' u)) → va_S A s.heap H1 locs1 → W p l e R s m args below meth c H1 locs1 cells slots Q (F0 m (pc + 3) ls (.int r :: rest))) :
    W p l e R s m args below meth c H locs cells slots Q (F0 m pc ls st) := by
  obtain ⟨hx, hb, -, hml, hts, hown, -, hK, hN, hA⟩ := Z
  subst hst
  have hPc := z_sub hP isC hC (A := A)
  have hF := va_free hD hS hA isC hC
  subst hq
  refine va_calli (va_runV (As := As) (rest := rest) ⟨hx, hb, hml, hown, hts⟩ (C H.size) (cwV n hts (z_gV m1 m2 m3 m4 m5) rfl rfl rfl hd hR) ⟨zPre_blind, va_recv hK hPc hci hrecv, fun U hU hW => z_pre hK hN hPc (hD.sub isC hnd hC) U hU hW⟩ rfl hn hls rfl (lv_room hcat) hdg hcs) hS (fun q _ h => hF q h) hF (fun r u t H1 locs ht hvm hw hB hz1 hk1 hS => ?_)
  rw [ht] at hB
  obtain ⟨hP1, hD1⟩ := zjoin hP hD isC hnd hC (hfst u) hB hk1
  exact kk r u H1 locs hw hP1 hD1 hS
theorem z_callVl {post : Int64 → S → Prop} (Z : zAt p s m args meth c D cI cZ A own cc nL ret) (hP : va_P D vwCl w H) (hD : va_D A w) (hS : va_S A s.heap H locs) (hls : ls.size = nL)
    (C : zL l y bytes mL rt fr lo D cI cZ (.ref b :: As) wc post wc')
    (m1 : Cond.methodLink own idx y ∈ zT) (m2 : Cond.instanceMethod y ∈ zT) (m3 : Cond.selects Cn y y ∈ zT) (m4 : Cond.initialized Cn ∈ zT) (m5 : Cond.code y bytes mL (some rt) ∈ zT)
    (hd : y.cls = Cn ∧ y.cls ≠ "java/lang/invoke/MethodHandle" ∧ y.cls ≠ "java/lang/invoke/VarHandle" ∧ (parseMethodDescriptor y.desc).map (fun d => d.parameters.length) = some n)
    (hR : fr + 1 ≤ R.frames ∧ 8 + (mL + 11) + lo ≤ R.locals) (hcs : cells ≤ R.cells ∧ slots ≤ R.slots)
    (isC : List Nat) (hC : isC.map (fun i => w[i]?) = wc.map some) (hnd : va_nd isC = true) (hci : vwCl[ci]? = some q) (hq : q.1 = Cn) (hrecv : wc[k0]? = some (b, .inr (ci, fs)))
    (hfst : ∀ u, (wc' u).map Prod.fst = wc.map Prod.fst) (hn : As.length = n) (hcat : (rest.map fun v => v.category).sum ≤ 8) (hst : st = As.reverse ++ .ref b :: rest) (hdg : decode cc pc = .ok (.invokevirtual idx, 3))
    (kk : ∀ (r : Int64) (u : S) (H1 : Heap) (locs1 : List Loc), post r u → va_P D vwCl (zput w isC (wc' u)) H1 → va_D A (zput w isC (wc' u)) → va_S A s.heap H1 locs1 → W p l e R s m args below meth c H1 locs1 cells slots Q (F0 m (pc + 3) ls (.long r :: rest))) :
    W p l e R s m args below meth c H locs cells slots Q (F0 m pc ls st) := by
  obtain ⟨hx, hb, -, hml, hts, hown, -, hK, hN, hA⟩ := Z
  subst hst
  have hPc := z_sub hP isC hC (A := A)
  have hF := va_free hD hS hA isC hC
  subst hq
  refine va_calll (va_runV (As := As) (rest := rest) ⟨hx, hb, hml, hown, hts⟩ (C H.size) (cwV n hts (z_gV m1 m2 m3 m4 m5) rfl rfl rfl hd hR) ⟨zPre_blind, va_recv hK hPc hci hrecv, fun U hU hW => z_pre hK hN hPc (hD.sub isC hnd hC) U hU hW⟩ rfl hn hls rfl (lv_room hcat) hdg hcs) hS (fun q _ h => hF q h) hF (fun r u t H1 locs ht hvm hw hB hz1 hk1 hS => ?_)
  rw [ht] at hB
  obtain ⟨hP1, hD1⟩ := zjoin hP hD isC hnd hC (hfst u) hB hk1
  exact kk r u H1 locs hw hP1 hD1 hS
theorem z_callVv {post : S → Prop} (Z : zAt p s m args meth c D cI cZ A own cc nL ret) (hP : va_P D vwCl w H) (hD : va_D A w) (hS : va_S A s.heap H locs) (hls : ls.size = nL)
    (C : zV l y bytes mL fr lo D cI cZ (.ref b :: As) wc post wc')
    (m1 : Cond.methodLink own idx y ∈ zT) (m2 : Cond.instanceMethod y ∈ zT) (m3 : Cond.selects Cn y y ∈ zT) (m4 : Cond.initialized Cn ∈ zT) (m5 : Cond.code y bytes mL none ∈ zT)
    (hd : y.cls = Cn ∧ y.cls ≠ "java/lang/invoke/MethodHandle" ∧ y.cls ≠ "java/lang/invoke/VarHandle" ∧ (parseMethodDescriptor y.desc).map (fun d => d.parameters.length) = some n)
    (hR : fr + 1 ≤ R.frames ∧ 8 + (mL + 11) + lo ≤ R.locals) (hcs : cells ≤ R.cells ∧ slots ≤ R.slots)
    (isC : List Nat) (hC : isC.map (fun i => w[i]?) = wc.map some) (hnd : va_nd isC = true) (hci : vwCl[ci]? = some q) (hq : q.1 = Cn) (hrecv : wc[k0]? = some (b, .inr (ci, fs)))
    (hfst : ∀ u, (wc' u).map Prod.fst = wc.map Prod.fst) (hn : As.length = n) (hcat : (rest.map fun v => v.category).sum ≤ 8) (hst : st = As.reverse ++ .ref b :: rest) (hdg : decode cc pc = .ok (.invokevirtual idx, 3))
    (kk : ∀ (u : S) (H1 : Heap) (locs1 : List Loc), post u → va_P D vwCl (zput w isC (wc' u)) H1 → va_D A (zput w isC (wc' u)) → va_S A s.heap H1 locs1 → W p l e R s m args below meth c H1 locs1 cells slots Q (F0 m (pc + 3) ls rest)) :
    W p l e R s m args below meth c H locs cells slots Q (F0 m pc ls st) := by
  obtain ⟨hx, hb, -, hml, hts, hown, -, hK, hN, hA⟩ := Z
  subst hst
  have hPc := z_sub hP isC hC (A := A)
  have hF := va_free hD hS hA isC hC
  subst hq
  refine va_callv (va_runV (As := As) (rest := rest) ⟨hx, hb, hml, hown, hts⟩ (C H.size) (cwV n hts (z_gV m1 m2 m3 m4 m5) rfl rfl rfl hd hR) ⟨zPre_blind, va_recv hK hPc hci hrecv, fun U hU hW => z_pre hK hN hPc (hD.sub isC hnd hC) U hU hW⟩ rfl hn hls rfl (lv_room hcat) hdg hcs) hS (fun q _ h => hF q h) hF (fun u t H1 locs ht hvm hw hB hz1 hk1 hS => ?_)
  rw [ht] at hB
  obtain ⟨hP1, hD1⟩ := zjoin hP hD isC hnd hC (hfst u) hB hk1
  exact kk u H1 locs hw hP1 hD1 hS
theorem z_callSi {post : Int32 → S → Prop} (Z : zAt p s m args meth c D cI cZ A own cc nL ret) (hP : va_P D vwCl w H) (hD : va_D A w) (hS : va_S A s.heap H locs) (hls : ls.size = nL)
    (C : zI l y bytes mL rt fr lo D cI cZ As wc post wc')
    (m1 : Cond.methodLink own idx y ∈ zT) (m2 : Cond.static y ∈ zT) (m4 : Cond.initialized y.cls ∈ zT) (m5 : Cond.code y bytes mL (some rt) ∈ zT)
    (hd : y.cls ≠ "java/lang/invoke/MethodHandle" ∧ y.cls ≠ "java/lang/invoke/VarHandle" ∧ (parseMethodDescriptor y.desc).map (fun d => d.parameters.length) = some n)
    (hR : fr + 1 ≤ R.frames ∧ 8 + (mL + 11) + lo ≤ R.locals) (hcs : cells ≤ R.cells ∧ slots ≤ R.slots)
    (isC : List Nat) (hC : isC.map (fun i => w[i]?) = wc.map some) (hnd : va_nd isC = true)
    (hfst : ∀ u, (wc' u).map Prod.fst = wc.map Prod.fst) (hn : As.length = n) (hcat : (rest.map fun v => v.category).sum ≤ 8) (hst : st = As.reverse ++ rest) (hdg : decode cc pc = .ok (.invokestatic idx, 3))
    (kk : ∀ (r : Int32) (u : S) (H1 : Heap) (locs1 : List Loc), post r u → va_P D vwCl (zput w isC (wc' u)) H1 → va_D A (zput w isC (wc' u)) → va_S A s.heap H1 locs1 → W p l e R s m args below meth c H1 locs1 cells slots Q (F0 m (pc + 3) ls (.int r :: rest))) :
    W p l e R s m args below meth c H locs cells slots Q (F0 m pc ls st) := by
  obtain ⟨hx, hb, -, hml, hts, hown, -, hK, hN, hA⟩ := Z
  subst hst
  have hPc := z_sub hP isC hC (A := A)
  have hF := va_free hD hS hA isC hC
  refine va_calli (va_runS (As := As) (rest := rest) ⟨hx, hb, hml, hown, hts⟩ (C H.size) (va_cwS n hts (z_gS m1 m2 m4 m5) rfl rfl rfl hd hR) ⟨zPre_blind, fun U hU hW => z_pre hK hN hPc (hD.sub isC hnd hC) U hU hW⟩ rfl hn hls rfl (lv_room hcat) hdg hcs) hS (fun q _ h => hF q h) hF (fun r u t H1 locs ht hvm hw hB hz1 hk1 hS => ?_)
  rw [ht] at hB
  obtain ⟨hP1, hD1⟩ := zjoin hP hD isC hnd hC (hfst u) hB hk1
  exact kk r u H1 locs hw hP1 hD1 hS
theorem z_callSv {post : S → Prop} (Z : zAt p s m args meth c D cI cZ A own cc nL ret) (hP : va_P D vwCl w H) (hD : va_D A w) (hS : va_S A s.heap H locs) (hls : ls.size = nL)
    (C : zV l y bytes mL fr lo D cI cZ As wc post wc')
    (m1 : Cond.methodLink own idx y ∈ zT) (m2 : Cond.static y ∈ zT) (m4 : Cond.initialized y.cls ∈ zT) (m5 : Cond.code y bytes mL none ∈ zT)
    (hd : y.cls ≠ "java/lang/invoke/MethodHandle" ∧ y.cls ≠ "java/lang/invoke/VarHandle" ∧ (parseMethodDescriptor y.desc).map (fun d => d.parameters.length) = some n)
    (hR : fr + 1 ≤ R.frames ∧ 8 + (mL + 11) + lo ≤ R.locals) (hcs : cells ≤ R.cells ∧ slots ≤ R.slots)
    (isC : List Nat) (hC : isC.map (fun i => w[i]?) = wc.map some) (hnd : va_nd isC = true)
    (hfst : ∀ u, (wc' u).map Prod.fst = wc.map Prod.fst) (hn : As.length = n) (hcat : (rest.map fun v => v.category).sum ≤ 8) (hst : st = As.reverse ++ rest) (hdg : decode cc pc = .ok (.invokestatic idx, 3))
    (kk : ∀ (u : S) (H1 : Heap) (locs1 : List Loc), post u → va_P D vwCl (zput w isC (wc' u)) H1 → va_D A (zput w isC (wc' u)) → va_S A s.heap H1 locs1 → W p l e R s m args below meth c H1 locs1 cells slots Q (F0 m (pc + 3) ls rest)) :
    W p l e R s m args below meth c H locs cells slots Q (F0 m pc ls st) := by
  obtain ⟨hx, hb, -, hml, hts, hown, -, hK, hN, hA⟩ := Z
  subst hst
  have hPc := z_sub hP isC hC (A := A)
  have hF := va_free hD hS hA isC hC
  refine va_callv (va_runS (As := As) (rest := rest) ⟨hx, hb, hml, hown, hts⟩ (C H.size) (va_cwS n hts (z_gS m1 m2 m4 m5) rfl rfl rfl hd hR) ⟨zPre_blind, fun U hU hW => z_pre hK hN hPc (hD.sub isC hnd hC) U hU hW⟩ rfl hn hls rfl (lv_room hcat) hdg hcs) hS (fun q _ h => hF q h) hF (fun u t H1 locs ht hvm hw hB hz1 hk1 hS => ?_)
  rw [ht] at hB
  obtain ⟨hP1, hD1⟩ := zjoin hP hD isC hnd hC (hfst u) hB hk1
  exact kk u H1 locs hw hP1 hD1 hS
theorem z_callNi {host : String} {post : Int32 → S → Prop} (Z : zAt p s m args meth c D cI cZ A own cc nL ret) (hP : va_P D vwCl w H) (hD : va_D A w) (hS : va_S A s.heap H locs) (hls : ls.size = nL)
    (C : zI l y bytes mL rt fr lo D cI cZ As wc post wc')
    (m1 : Cond.methodLinkNest own idx y host ∈ zN) (m2 : Cond.static y ∈ zT) (m4 : Cond.initialized y.cls ∈ zT) (m5 : Cond.code y bytes mL (some rt) ∈ zT)
    (hd : y.cls ≠ "java/lang/invoke/MethodHandle" ∧ y.cls ≠ "java/lang/invoke/VarHandle" ∧ (parseMethodDescriptor y.desc).map (fun d => d.parameters.length) = some n)
    (hR : fr + 1 ≤ R.frames ∧ 8 + (mL + 11) + lo ≤ R.locals) (hcs : cells ≤ R.cells ∧ slots ≤ R.slots)
    (isC : List Nat) (hC : isC.map (fun i => w[i]?) = wc.map some) (hnd : va_nd isC = true)
    (hfst : ∀ u, (wc' u).map Prod.fst = wc.map Prod.fst) (hn : As.length = n) (hcat : (rest.map fun v => v.category).sum ≤ 8) (hst : st = As.reverse ++ rest) (hdg : decode cc pc = .ok (.invokestatic idx, 3))
    (kk : ∀ (r : Int32) (u : S) (H1 : Heap) (locs1 : List Loc), post r u → va_P D vwCl (zput w isC (wc' u)) H1 → va_D A (zput w isC (wc' u)) → va_S A s.heap H1 locs1 → W p l e R s m args below meth c H1 locs1 cells slots Q (F0 m (pc + 3) ls (.int r :: rest))) :
    W p l e R s m args below meth c H locs cells slots Q (F0 m pc ls st) := by
  obtain ⟨hx, hb, -, hml, hts, hown, -, hK, hN, hA⟩ := Z
  subst hst
  have hPc := z_sub hP isC hC (A := A)
  have hF := va_free hD hS hA isC hC
  refine va_calli (va_runSN (As := As) (rest := rest) ⟨hx, hb, hml, hown, hts⟩ (C H.size) ⟨va_cnB n hts (z_goodc m5) rfl rfl rfl (hN _ m1) (hts _ m4) hd hR, hts _ m2, trivial⟩ ⟨zPre_blind, fun U hU hW => z_pre hK hN hPc (hD.sub isC hnd hC) U hU hW⟩ rfl hn hls rfl (lv_room hcat) hdg hcs) hS (fun q _ h => hF q h) hF (fun r u t H1 locs ht hvm hw hB hz1 hk1 hS => ?_)
  rw [ht] at hB
  obtain ⟨hP1, hD1⟩ := zjoin hP hD isC hnd hC (hfst u) hB hk1
  exact kk r u H1 locs hw hP1 hD1 hS
theorem z_iret {post : Int32 → S → Prop} {w' : S → va_W} {v : Int32} (Z : zAt p s m args meth c D cI cZ A own cc nL (some .int)) (u : S) (hpost : post v u) (hP : va_P D vwCl (w' u) H) (hS : va_S A s.heap H locs) (hdg : decode cc pc = .ok (.ireturn, 1)) :
    W p l e R s m args below meth c H locs cells slots (MQ below (va_Qi post (fun u t => va_P D vwCl (w' u) t.heap) A) args s cells slots A) (F0 m pc ls [.int v]) := by
  obtain ⟨hx, hb, hr, -, -, -, hlocks, -, -, -⟩ := Z
  exact W.iret hx hb hr (fun t ht hW => ⟨⟨v, u, rfl, hpost, by show va_P D vwCl (w' u) t.heap; rw [ht]; exact hP⟩, hS.F ht⟩) hS.2.2 hdg hlocks
theorem z_zret {post : Int32 → S → Prop} {w' : S → va_W} {v : Int32} (Z : zAt p s m args meth c D cI cZ A own cc nL (some .boolean)) (u : S) (hv : v = 0 ∨ v = 1) (hpost : post v u) (hP : va_P D vwCl (w' u) H) (hS : va_S A s.heap H locs) (hdg : decode cc pc = .ok (.ireturn, 1)) :
    W p l e R s m args below meth c H locs cells slots (MQ below (va_Qi post (fun u t => va_P D vwCl (w' u) t.heap) A) args s cells slots A) (F0 m pc ls [.int v]) := by
  obtain ⟨hx, hb, hr, -, -, -, hlocks, -, -, -⟩ := Z
  exact W.zret hx hb hr (by rcases hv with rfl | rfl <;> rfl) (fun t ht hW => ⟨⟨v, u, rfl, hpost, by show va_P D vwCl (w' u) t.heap; rw [ht]; exact hP⟩, hS.F ht⟩) hS.2.2 hdg hlocks
theorem z_lret {post : Int64 → S → Prop} {w' : S → va_W} {v : Int64} (Z : zAt p s m args meth c D cI cZ A own cc nL (some .long)) (u : S) (hpost : post v u) (hP : va_P D vwCl (w' u) H) (hS : va_S A s.heap H locs) (hdg : decode cc pc = .ok (.lreturn, 1)) :
    W p l e R s m args below meth c H locs cells slots (MQ below (va_Ql post (fun u t => va_P D vwCl (w' u) t.heap) A) args s cells slots A) (F0 m pc ls [.long v]) := by
  obtain ⟨hx, hb, hr, -, -, -, hlocks, -, -, -⟩ := Z
  exact W.lret hx hb hr (fun t ht hW => ⟨⟨v, u, rfl, hpost, by show va_P D vwCl (w' u) t.heap; rw [ht]; exact hP⟩, hS.F ht⟩) hS.2.2 hdg hlocks
theorem z_vret {post : S → Prop} {w' : S → va_W} (Z : zAt p s m args meth c D cI cZ A own cc nL none) (u : S) (hpost : post u) (hP : va_P D vwCl (w' u) H) (hS : va_S A s.heap H locs) (hdg : decode cc pc = .ok (.return_, 1)) :
    W p l e R s m args below meth c H locs cells slots (MQ below (va_Qv post (fun u t => va_P D vwCl (w' u) t.heap) A) args s cells slots A) (F0 m pc ls []) := by
  obtain ⟨hx, hb, hr, -, -, -, hlocks, -, -, -⟩ := Z
  exact W.vret hx hb hr (fun t ht hW => ⟨⟨u, rfl, hpost, by show va_P D vwCl (w' u) t.heap; rw [ht]; exact hP⟩, hS.F ht⟩) hS.2.2 hdg hlocks
/-- a loop, counted up: from lo to hi; the walk from its head may take the next turn as done -/
theorem z_loop (I : Nat → Heap → List Loc → Array Slot → Prop) (hi : Nat) {lo : Nat} {st : List Value} (hlo : lo ≤ hi) (h0 : I lo H locs ls)
    (step : ∀ (i : Nat), i ≤ hi → (∀ (H1 : Heap) (locs1 : List Loc) (ls1 : Array Slot), i < hi → I (i + 1) H1 locs1 ls1 → W p l e R s m args below meth c H1 locs1 cells slots Q (F0 m pc ls1 st)) →
      ∀ (H1 : Heap) (locs1 : List Loc) (ls1 : Array Slot), I i H1 locs1 ls1 → W p l e R s m args below meth c H1 locs1 cells slots Q (F0 m pc ls1 st)) :
    W p l e R s m args below meth c H locs cells slots Q (F0 m pc ls st) := by
  have key : ∀ (n i : Nat), i ≤ hi → hi < i + n → ∀ (H1 : Heap) (locs1 : List Loc) (ls1 : Array Slot), I i H1 locs1 ls1 → W p l e R s m args below meth c H1 locs1 cells slots Q (F0 m pc ls1 st) := by
    intro n
    induction n with
    | zero => intro i h1 h2; exact absurd h2 (by omega)
    | succ n ih => intro i h1 h2 H1 locs1 ls1 hI; exact step i h1 (fun H2 locs2 ls2 h3 h4 => ih (i + 1) (by omega) (by omega) H2 locs2 ls2 h4) H1 locs1 ls1 hI
  exact key (hi + 1 - lo) lo hlo (by omega) H locs ls h0
/-- a loop by a state of any kind and a measure that falls -/
theorem z_loopm {τ : Type} (I : τ → Heap → List Loc → Array Slot → Prop) (μ : τ → Nat) (x : τ) {st : List Value} (h0 : I x H locs ls)
    (step : ∀ (x : τ), (∀ (y : τ) (H1 : Heap) (locs1 : List Loc) (ls1 : Array Slot), μ y < μ x → I y H1 locs1 ls1 → W p l e R s m args below meth c H1 locs1 cells slots Q (F0 m pc ls1 st)) →
      ∀ (H1 : Heap) (locs1 : List Loc) (ls1 : Array Slot), I x H1 locs1 ls1 → W p l e R s m args below meth c H1 locs1 cells slots Q (F0 m pc ls1 st)) :
    W p l e R s m args below meth c H locs cells slots Q (F0 m pc ls st) := by
  have key : ∀ (n : Nat) (y : τ), μ y < n → ∀ (H1 : Heap) (locs1 : List Loc) (ls1 : Array Slot), I y H1 locs1 ls1 → W p l e R s m args below meth c H1 locs1 cells slots Q (F0 m pc ls1 st) := by
    intro n
    induction n with
    | zero => intro y h; exact absurd h (Nat.not_lt_zero _)
    | succ n ih => intro y h H1 locs1 ls1 hI; exact step y (fun z H2 locs2 ls2 h3 h4 => ih z (by omega) H2 locs2 ls2 h4) H1 locs1 ls1 hI
  exact key (μ x + 1) x (Nat.lt_succ_self _) H locs ls h0
/-- roads that come together again -/
theorem z_cut (I : Heap → List Loc → Array Slot → Prop) (pc2 : Nat) (st2 : List Value) {g : JFrame}
    (k1 : ∀ (H1 : Heap) (locs1 : List Loc) (ls1 : Array Slot), I H1 locs1 ls1 → W p l e R s m args below meth c H1 locs1 cells slots Q (F0 m pc2 ls1 st2))
    (k2 : (∀ (H1 : Heap) (locs1 : List Loc) (ls1 : Array Slot), I H1 locs1 ls1 → W p l e R s m args below meth c H1 locs1 cells slots Q (F0 m pc2 ls1 st2)) → W p l e R s m args below meth c H locs cells slots Q g) :
    W p l e R s m args below meth c H locs cells slots Q g := k2 k1
end ZR
theorem zb0 {P : Prop} [Decidable P] (h : (if P then (1 : Int32) else 0) = 0) : ¬ P := by
  intro q; rw [if_pos q] at h; exact absurd h (by decide)
theorem zb1 {P : Prop} [Decidable P] (h : ¬ (if P then (1 : Int32) else 0) = 0) : P := by
  by_cases q : P
  · exact q
  · rw [if_neg q] at h; exact absurd rfl h
theorem zb01 {P : Prop} [Decidable P] : (if P then (1 : Int32) else 0) = 0 ∨ (if P then (1 : Int32) else 0) = 1 := by
  by_cases q : P
  · right; rw [if_pos q]
  · left; rw [if_neg q]
theorem zle {i j : Nat} (hi : i < 2 ^ 31) (hj : j < 2 ^ 31) (h : nI i ≤ nI j) : i ≤ j := (nI_leI hi hj).mp h
theorem znle {i j : Nat} (hi : i < 2 ^ 31) (hj : j < 2 ^ 31) (h : ¬ nI i ≤ nI j) : j < i := Nat.not_le.mp (fun q => h ((nI_leI hi hj).mpr q))
theorem zlt {i j : Nat} (hi : i < 2 ^ 31) (hj : j < 2 ^ 31) (h : nI i < nI j) : i < j := (nI_ltI hi hj).mp h
theorem znlt {i j : Nat} (hi : i < 2 ^ 31) (hj : j < 2 ^ 31) (h : ¬ nI i < nI j) : j ≤ i := Nat.not_lt.mp (fun q => h ((nI_ltI hi hj).mpr q))
theorem zeq {i j : Nat} (hi : i < 2 ^ 31) (hj : j < 2 ^ 31) (h : nI i = nI j) : i = j := (nI_eq hi hj).mp h
theorem zne {i j : Nat} (h : ¬ nI i = nI j) : ¬ i = j := fun q => h (by rw [q])
