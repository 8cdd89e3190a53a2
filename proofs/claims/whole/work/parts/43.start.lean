/-! THE CLAIM OUT OF ONE WALK OF THE LAW'S BODY. Your part is whole_start (and what it stands on); all else here is the same for every law, but numbers. -/
def R_law : String := "SurpriseTaxLaw"
def lw_P (b : Addr) (xs : List Int32) (args : Array Value) (s : State) : Prop := args = #[.ref b] ∧ s.IntsAt b xs ∧ xs.length ≤ 2560 ∧ (Jvm.Cond.and given_1 narrow_1).before args s = true
def lw_Q (_ : Array Value) (s : State) (o : Outcome) (t : State) : Prop := o = .returned (some (.int 1)) ∧ Framed s o t [] 48 1690
def lw_Z (below : List Frame) (a : Array Value) (s : State) : State → Prop := fun t => ∃ o, t.status = .running ∧ Ended t below o ∧ lw_Q a s o t
/-- the law's own end, with 1 on the stack, nothing written that was there before, its room as the claim has it -/
theorem lw_ret {p : Program} {l : Launch} {e : Env} {s : State} {m : MethodId} {below : List Frame} {meth : Method} {c : Code} {b : Nat} (hx : p.tables.exec = Jvm.exec) (hb : c.code = code) (hr : meth.sig.returnType = ret) (hlocks : meth.locks = false) {pc : Nat} {H : Heap} {ls : Array Slot} (hdg : decode code pc = .ok (.ireturn, 1)) : W p l e room_1 s m #[Value.ref b] below meth c H [] 48 1690 (lw_Z below #[Value.ref b] s) (F0 m pc ls [.int 1]) := by
  intro T hT X
  obtain ⟨fs, hret, hrun, hended, hW, hframe⟩ := X.leave (v := some (.int 1)) (hlocks := hlocks) (fun h => by rw [hr] at h; cases h)
  have hmeth' : T.vm.method? m = some meth := X.method'
  refine ⟨T.setFrames fs, ?_, .returned (some (.int 1)), hrun, hended, rfl, ⟨_, rfl⟩, hW, hframe⟩
  jvm_step X.here [X.here.top, hx, hb, hdg, hmeth', hr, ret, narrow_b1]
  (try refine ⟨rfl, ?_⟩); (try refine ⟨rfl, ?_⟩)
  first | (intro acts; rw [hret _ acts rfl rfl rfl]) | rw [hret _ _ rfl rfl rfl]
  exact Steps.refl _
/-- what holds at the law's entry: the machine, the code, the tables' words (any of lw_tbl by 'hts w (by decide +kernel)'), the script of L ints xs at the cell b, what the Statement gives of the start (any of its parts by flat_of_before) -/
def lw_At (p : Program) (s : State) (m : MethodId) (meth : Method) (c : Code) (b L : Nat) (xs : Nat → Int32) : Prop :=
  p.tables.exec = Jvm.exec ∧ c.code = code ∧ meth.sig.returnType = ret ∧ c.maxLocals = 4 ∧ s.vm.findClass R_law = some m.cls ∧ (∀ w ∈ lw_tbl, w.before #[Value.ref b] s = true) ∧ va_X b L xs s s.heap ∧ b < s.heap.size ∧ meth.locks = false ∧ (Jvm.Cond.and given_1 narrow_1).before #[Value.ref b] s = true
set_option maxRecDepth 100000 in
theorem zLI_mv {D : va_G} {cI cZ : ClassId} {A : Nat → Prop} {sS : State} {bS o tx tb tt r ro rn rr a b r2 ro2 rn2 rr2 a2 b2 x xs y ys yk z zp zd v a3 b3 h a4 b4 M mtx mod_ mne mro mrod mrne mrro mrp mpg mbk mke mik mrw mrd mtr mwo mnx : Nat} {i j : Nat} {H : Heap} {locs : List Loc} {ls ls2 : Array Slot} (h9_ : zLI D cI cZ A sS bS o tx tb tt r ro rn rr a b r2 ro2 rn2 rr2 a2 b2 x xs y ys yk z zp zd v a3 b3 h a4 b4 M mtx mod_ mne mro mrod mrne mrro mrp mpg mbk mke mik mrw mrd mtr mwo mnx i H locs ls) (hl2 : lv_has ls2 4 [(0, .ref bS), (1, .ref o), (2, .ref M), (3, .int (nI j))]) : zLI D cI cZ A sS bS o tx tb tt r ro rn rr a b r2 ro2 rn2 rr2 a2 b2 x xs y ys yk z zp zd v a3 b3 h a4 b4 M mtx mod_ mne mro mrod mrne mrro mrp mpg mbk mke mik mrw mrd mtr mwo mnx j H locs ls2 := by
  refine zLI_elim h9_ ?_
  intro len at_ n m cn nx cr n2 m2 pl rn9 rm9 q5 r5 s5 ft8 rt2 fr2 pr2 ft kd su ch tf jr th rrt rfr rpr jrm sd bf te od nv rd f od2 nv2 rd2 f2 sf yf kf pw pd g3 g4 rte rv rr_ rg mv md g bk ke tr wo nxm hP hD hS hl hrel
  exact ⟨len, at_, n, m, cn, nx, cr, n2, m2, pl, rn9, rm9, q5, r5, s5, ft8, rt2, fr2, pr2, ft, kd, su, ch, tf, jr, th, rrt, rfr, rpr, jrm, sd, bf, te, od, nv, rd, f, od2, nv2, rd2, f2, sf, yf, kf, pw, pd, g3, g4, rte, rv, rr_, rg, mv, md, g, bk, ke, tr, wo, nxm, hP, hD, hS, hl2, hrel⟩
theorem dL_law_18 : decode cL_law 18 = .ok (.iload_n 3, 1) := by decide +kernel
theorem dL_law_19 : decode cL_law 19 = .ok (.aload_n 0, 1) := by decide +kernel
theorem dL_law_20 : decode cL_law 20 = .ok (.arraylength, 1) := by decide +kernel
theorem dL_law_21 : decode cL_law 21 = .ok (.iconst 5, 1) := by decide +kernel
theorem dL_law_22 : decode cL_law 22 = .ok (.isub, 1) := by decide +kernel
theorem dL_law_23 : decode cL_law 23 = .ok (.if_icmp .gt 987, 3) := by decide +kernel
theorem dL_law_26 : decode cL_law 26 = .ok (.aload_n 0, 1) := by decide +kernel
theorem dL_law_27 : decode cL_law 27 = .ok (.iload_n 3, 1) := by decide +kernel
theorem dL_law_28 : decode cL_law 28 = .ok (.iaload, 1) := by decide +kernel
theorem dL_law_29 : decode cL_law 29 = .ok (.bipush 31, 2) := by decide +kernel
theorem dL_law_31 : decode cL_law 31 = .ok (.iand, 1) := by decide +kernel
theorem dL_law_32 : decode cL_law 32 = .ok (.tableswitch 972 0 28 #[132, 155, 168, 181, 194, 217, 250, 283, 316, 339, 352, 385, 434, 457, 516, 549, 592, 615, 638, 671, 684, 707, 760, 783, 826, 849, 903, 926, 949], 132) := by decide +kernel
theorem dL_law_1004 : decode cL_law 1004 = .ok (.iinc 3 5, 3) := by decide +kernel
theorem dL_law_1007 : decode cL_law 1007 = .ok (.goto (-989), 3) := by decide +kernel
theorem dL_law_1010 : decode cL_law 1010 = .ok (.iconst 1, 1) := by decide +kernel
theorem dL_law_1011 : decode cL_law 1011 = .ok (.ireturn, 1) := by decide +kernel
theorem zN_tab : zN.all (fun w => w.onTables) = true := by decide +kernel
theorem zlaw_in {L i : Nat} (hL : L ≤ 2560) (hi : i ≤ 3000) (h : ¬ nI L - 5 < nI i) : i + 5 ≤ L := by
  rcases Nat.lt_or_ge L 5 with q | q
  · exfalso
    have key : ∀ L, L < 5 → nI L - 5 < 0 := by decide +kernel
    have h1 := key L q
    have h2 := nI_pos (show i < 2147483648 by omega)
    rw [Int32.lt_iff_toInt_lt] at h h1 h2
    omega
  · rw [show nI L - 5 = nI (L - 5) from pk_sub q] at h
    rcases Nat.lt_or_ge (L - 5) i with z | z
    · exact absurd (nI_lt z (by omega)) h
    · omega
set_option maxHeartbeats 8000000 in
set_option maxRecDepth 100000 in
theorem zlaw_loop {p : Program} {l : Launch} {e : Env} {s : State} {m : MethodId} {below : List Frame} {meth : Method} {c : Code} {D : va_G} {cI cZ : ClassId} {b L : Nat} {xs9 : Nat → Int32} (hL : L ≤ 2560) (C0 : lw_At p s m meth c b L xs9) (Z : zAt p s m #[Value.ref b] meth c D cI cZ (fun q : Nat => s.heap.size ≤ q) "SurpriseTaxLaw" cL_law 4 ret) {o tx tb tt r ro rn rr a bb r2 ro2 rn2 rr2 a2 b2 x xs y ys yk z zp zd v a3 b3 h a4 b4 M mtx mod_ mne mro mrod mrne mrro mrp mpg mbk mke mik mrw mrd mtr mwo mnx : Nat} {H : Heap} {locs : List Loc} {ls : Array Slot} (h0 : zLI D cI cZ (fun q : Nat => s.heap.size ≤ q) s b o tx tb tt r ro rn rr a bb r2 ro2 rn2 rr2 a2 b2 x xs y ys yk z zp zd v a3 b3 h a4 b4 M mtx mod_ mne mro mrod mrne mrro mrp mpg mbk mke mik mrw mrd mtr mwo mnx 0 H locs ls) : W p l e room_1 s m #[Value.ref b] below meth c H locs 48 1690 (lw_Z below #[Value.ref b] s) (F0 m 18 ls []) := by
  have hX : va_X b L xs9 s s.heap := C0.2.2.2.2.2.2.1
  have hbl : b < s.heap.size := C0.2.2.2.2.2.2.2.1
  have hbA : ¬ (fun q : Nat => s.heap.size ≤ q) b := Nat.not_le.mpr hbl
  have hx := Z.1
  have hb := Z.2.1
  have hlocks : meth.locks = false := C0.2.2.2.2.2.2.2.2.1
  have hrt : meth.sig.returnType = ret := C0.2.2.1
  refine z_loopm (fun (i : Nat) H locs ls => i ≤ L ∧ zLI D cI cZ (fun q : Nat => s.heap.size ≤ q) s b o tx tb tt r ro rn rr a bb r2 ro2 rn2 rr2 a2 b2 x xs y ys yk z zp zd v a3 b3 h a4 b4 M mtx mod_ mne mro mrod mrne mrro mrp mpg mbk mke mik mrw mrd mtr mwo mnx i H locs ls) (fun i => L + 5 - i) 0 ⟨Nat.zero_le _, h0⟩ (fun i ih H locs ls hI0 => ?_)
  obtain ⟨hiL, hI⟩ := hI0
  have hS : va_S (fun q : Nat => s.heap.size ≤ q) s.heap H locs := by
    refine zLI_elim hI ?_
    intros; assumption
  have hl : lv_has ls 4 [(0, .ref b), (1, .ref o), (2, .ref M), (3, .int (nI i))] := by
    refine zLI_elim hI ?_
    intros; assumption
  have back : ∀ (H1 : Heap) (locs1 : List Loc) (ls1 : Array Slot), i + 5 ≤ L → zLI D cI cZ (fun q : Nat => s.heap.size ≤ q) s b o tx tb tt r ro rn rr a bb r2 ro2 rn2 rr2 a2 b2 x xs y ys yk z zp zd v a3 b3 h a4 b4 M mtx mod_ mne mro mrod mrne mrro mrp mpg mbk mke mik mrw mrd mtr mwo mnx i H1 locs1 ls1 → W p l e room_1 s m #[Value.ref b] below meth c H1 locs1 48 1690 (lw_Z below #[Value.ref b] s) (F0 m 1004 ls1 []) := by
    intro H1 locs1 ls1 h5 hI1
    have hl1 : lv_has ls1 4 [(0, .ref b), (1, .ref o), (2, .ref M), (3, .int (nI i))] := by
      refine zLI_elim hI1 ?_
      intros; assumption
    refine lv_iinc (v := nI (i + 5)) (lv' := [(3, .int (nI (i + 5))), (0, .ref b), (1, .ref o), (2, .ref M)]) hx hb dL_law_1004 hl1 (k := 3) rfl (z_inc _ 5) (by decide) rfl (fun ls2 hl2 => ?_)
    refine lv_goto (tgt := 18) hx hb dL_law_1007 (by decide) ?_
    exact ih (i + 5) _ _ _ (by omega) ⟨by omega, zLI_mv hI1 (lv_sub hl2 [1, 2, 3, 0] rfl)⟩
  refine lv_iload_n hx hb dL_law_18 rfl (lv_at hl 3 rfl) ?_
  refine lv_aload_n hx hb dL_law_19 rfl (lv_at hl 0 rfl) ?_
  refine va_slen hx hb hX hbl hbA hS dL_law_20 ?_
  refine lv_iconst (v := nI 5) hx hb dL_law_21 (by decide) ?_
  refine lv_isub hx hb dL_law_22 ?_
  refine z_top (y := nI L - 5) rfl ?_
  refine lv_icmp_gt (tgt := 1010) hx hb dL_law_23 (by decide) (fun c_1 => ?_) (fun c_1 => ?_)
  · refine lv_iconst (v := 1) hx hb dL_law_1010 (by decide) ?_
    refine va_forget (fun q hq => hS.2.2 q hq) ?_
    exact lw_ret hx hb hrt hlocks dL_law_1011
  · have h5 : i + 5 ≤ L := zlaw_in hL (by omega) c_1
    refine lv_aload_n hx hb dL_law_26 rfl (lv_at hl 0 rfl) ?_
    refine lv_iload_n hx hb dL_law_27 rfl (lv_at hl 3 rfl) ?_
    refine va_sld hx hb hX hbl hbA hS (vp_in_nI (show i < L by omega) (by omega)) dL_law_28 ?_
    refine lv_bipush (v := nI 31) hx hb dL_law_29 (by decide) ?_
    refine lv_iand hx hb dL_law_31 ?_
    obtain ⟨j, hj, hv⟩ := pk_andE (xs9 (nI i).toNatClampNeg) (m := 31) 5 (by decide)
    refine z_top (y := nI j) hv ?_
    rcases (show j = 0 ∨ j = 1 ∨ j = 2 ∨ j = 3 ∨ j = 4 ∨ j = 5 ∨ j = 6 ∨ j = 7 ∨ j = 8 ∨ j = 9 ∨ j = 10 ∨ j = 11 ∨ j = 12 ∨ j = 13 ∨ j = 14 ∨ j = 15 ∨ j = 16 ∨ j = 17 ∨ j = 18 ∨ j = 19 ∨ j = 20 ∨ j = 21 ∨ j = 22 ∨ j = 23 ∨ j = 24 ∨ j = 25 ∨ j = 26 ∨ j = 27 ∨ j = 28 ∨ j = 29 ∨ j = 30 ∨ j = 31 by omega) with rfl | rfl | rfl | rfl | rfl | rfl | rfl | rfl | rfl | rfl | rfl | rfl | rfl | rfl | rfl | rfl | rfl | rfl | rfl | rfl | rfl | rfl | rfl | rfl | rfl | rfl | rfl | rfl | rfl | rfl | rfl | rfl
    · refine lv_tableIn (tgt := 164) hx hb dL_law_32 (by decide) (by decide) (by rfl) (by decide) ?_
      exact zlc_write Z hX hbl hbA hL h5 hI (fun H1 locs1 ls1 h => back H1 locs1 ls1 h5 h)
    · refine lv_tableIn (tgt := 187) hx hb dL_law_32 (by decide) (by decide) (by rfl) (by decide) ?_
      exact zlc_wipe Z hX hbl hbA hL h5 hI (fun H1 locs1 ls1 h => back H1 locs1 ls1 h5 h)
    · refine lv_tableIn (tgt := 200) hx hb dL_law_32 (by decide) (by decide) (by rfl) (by decide) ?_
      exact zlc_fault Z hX hbl hbA hL h5 hI (fun H1 locs1 ls1 h => back H1 locs1 ls1 h5 h)
    · refine lv_tableIn (tgt := 213) hx hb dL_law_32 (by decide) (by decide) (by rfl) (by decide) ?_
      exact zlc_realm Z hX hbl hbA hL h5 hI (fun H1 locs1 ls1 h => back H1 locs1 ls1 h5 h)
    · refine lv_tableIn (tgt := 226) hx hb dL_law_32 (by decide) (by decide) (by rfl) (by decide) ?_
      exact zlc_about Z hX hbl hbA hL h5 hI (fun H1 locs1 ls1 h => back H1 locs1 ls1 h5 h)
    · refine lv_tableIn (tgt := 249) hx hb dL_law_32 (by decide) (by decide) (by rfl) (by decide) ?_
      exact zlc_person Z hX hbl hbA hL h5 hI (fun H1 locs1 ls1 h => back H1 locs1 ls1 h5 h)
    · refine lv_tableIn (tgt := 282) hx hb dL_law_32 (by decide) (by decide) (by rfl) (by decide) ?_
      exact zlc_declare Z hX hbl hbA hL h5 hI (fun H1 locs1 ls1 h => back H1 locs1 ls1 h5 h)
    · refine lv_tableIn (tgt := 315) hx hb dL_law_32 (by decide) (by decide) (by rfl) (by decide) ?_
      exact zlc_tellOn Z hX hbl hbA hL h5 hI (fun H1 locs1 ls1 h => back H1 locs1 ls1 h5 h)
    · refine lv_tableIn (tgt := 348) hx hb dL_law_32 (by decide) (by decide) (by rfl) (by decide) ?_
      exact zlc_event Z hX hbl hbA hL h5 hI (fun H1 locs1 ls1 h => back H1 locs1 ls1 h5 h)
    · refine lv_tableIn (tgt := 371) hx hb dL_law_32 (by decide) (by decide) (by rfl) (by decide) ?_
      exact zlc_undo Z hX hbl hbA hL h5 hI (fun H1 locs1 ls1 h => back H1 locs1 ls1 h5 h)
    · refine lv_tableIn (tgt := 384) hx hb dL_law_32 (by decide) (by decide) (by rfl) (by decide) ?_
      exact zlc_tax Z hX hbl hbA hL h5 hI (fun H1 locs1 ls1 h => back H1 locs1 ls1 h5 h)
    · refine lv_tableIn (tgt := 417) hx hb dL_law_32 (by decide) (by decide) (by rfl) (by decide) ?_
      exact zlc_mean Z hX hbl hbA hL h5 hI (fun H1 locs1 ls1 h => back H1 locs1 ls1 h5 h)
    · refine lv_tableIn (tgt := 466) hx hb dL_law_32 (by decide) (by decide) (by rfl) (by decide) ?_
      exact zlc_counsel Z hX hbl hbA hL h5 hI (fun H1 locs1 ls1 h => back H1 locs1 ls1 h5 h)
    · refine lv_tableIn (tgt := 489) hx hb dL_law_32 (by decide) (by decide) (by rfl) (by decide) ?_
      exact zlc_least Z hX hbl hbA hL h5 hI (fun H1 locs1 ls1 h => back H1 locs1 ls1 h5 h)
    · refine lv_tableIn (tgt := 548) hx hb dL_law_32 (by decide) (by decide) (by rfl) (by decide) ?_
      exact zlc_joke Z hX hbl hbA hL h5 hI (fun H1 locs1 ls1 h => back H1 locs1 ls1 h5 h)
    · refine lv_tableIn (tgt := 581) hx hb dL_law_32 (by decide) (by decide) (by rfl) (by decide) ?_
      exact zlc_jokeAt Z hX hbl hbA hL h5 hI (fun H1 locs1 ls1 h => back H1 locs1 ls1 h5 h)
    · refine lv_tableIn (tgt := 624) hx hb dL_law_32 (by decide) (by decide) (by rfl) (by decide) ?_
      exact zlc_broke Z hX hbl hbA hL h5 hI (fun H1 locs1 ls1 h => back H1 locs1 ls1 h5 h)
    · refine lv_tableIn (tgt := 647) hx hb dL_law_32 (by decide) (by decide) (by rfl) (by decide) ?_
      exact zlc_reform Z hX hbl hbA hL h5 hI (fun H1 locs1 ls1 h => back H1 locs1 ls1 h5 h)
    · refine lv_tableIn (tgt := 670) hx hb dL_law_32 (by decide) (by decide) (by rfl) (by decide) ?_
      exact zlc_roll Z hX hbl hbA hL h5 hI (fun H1 locs1 ls1 h => back H1 locs1 ls1 h5 h)
    · refine lv_tableIn (tgt := 703) hx hb dL_law_32 (by decide) (by decide) (by rfl) (by decide) ?_
      exact zlc_unroll Z hX hbl hbA hL h5 hI (fun H1 locs1 ls1 h => back H1 locs1 ls1 h5 h)
    · refine lv_tableIn (tgt := 716) hx hb dL_law_32 (by decide) (by decide) (by rfl) (by decide) ?_
      exact zlc_tales Z hX hbl hbA hL h5 hI (fun H1 locs1 ls1 h => back H1 locs1 ls1 h5 h)
    · refine lv_tableIn (tgt := 739) hx hb dL_law_32 (by decide) (by decide) (by rfl) (by decide) ?_
      exact zlc_school Z hX hbl hbA hL h5 hI (fun H1 locs1 ls1 h => back H1 locs1 ls1 h5 h)
    · refine lv_tableIn (tgt := 792) hx hb dL_law_32 (by decide) (by decide) (by rfl) (by decide) ?_
      exact zlc_braced Z hX hbl hbA hL h5 hI (fun H1 locs1 ls1 h => back H1 locs1 ls1 h5 h)
    · refine lv_tableIn (tgt := 815) hx hb dL_law_32 (by decide) (by decide) (by rfl) (by decide) ?_
      exact zlc_fair Z hX hbl hbA hL h5 hI (fun H1 locs1 ls1 h => back H1 locs1 ls1 h5 h)
    · refine lv_tableIn (tgt := 858) hx hb dL_law_32 (by decide) (by decide) (by rfl) (by decide) ?_
      exact zlc_courier Z hX hbl hbA hL h5 hI (fun H1 locs1 ls1 h => back H1 locs1 ls1 h5 h)
    · refine lv_tableIn (tgt := 881) hx hb dL_law_32 (by decide) (by decide) (by rfl) (by decide) ?_
      exact zlc_seed Z hX hbl hbA hL h5 hI (fun H1 locs1 ls1 h => back H1 locs1 ls1 h5 h)
    · refine lv_tableIn (tgt := 935) hx hb dL_law_32 (by decide) (by decide) (by rfl) (by decide) ?_
      exact zlc_week Z hX hbl hbA hL h5 hI (fun H1 locs1 ls1 h => back H1 locs1 ls1 h5 h)
    · refine lv_tableIn (tgt := 958) hx hb dL_law_32 (by decide) (by decide) (by rfl) (by decide) ?_
      exact zlc_keep Z hX hbl hbA hL h5 hI (fun H1 locs1 ls1 h => back H1 locs1 ls1 h5 h)
    · refine lv_tableIn (tgt := 981) hx hb dL_law_32 (by decide) (by decide) (by rfl) (by decide) ?_
      exact zlc_again Z hX hbl hbA hL h5 hI (fun H1 locs1 ls1 h => back H1 locs1 ls1 h5 h)
    · refine lv_tableOut (tgt := 1004) hx hb dL_law_32 (by decide) (by decide) ?_
      exact back _ _ _ h5 hI
    · refine lv_tableOut (tgt := 1004) hx hb dL_law_32 (by decide) (by decide) ?_
      exact back _ _ _ h5 hI
    · refine lv_tableOut (tgt := 1004) hx hb dL_law_32 (by decide) (by decide) ?_
      exact back _ _ _ h5 hI
theorem dL_law_0 : decode cL_law 0 = .ok (.new 7, 3) := by decide +kernel
theorem dL_law_3 : decode cL_law 3 = .ok (.dup, 1) := by decide +kernel
theorem dL_law_4 : decode cL_law 4 = .ok (.invokespecial 9, 3) := by decide +kernel
theorem dL_law_7 : decode cL_law 7 = .ok (.astore_n 1, 1) := by decide +kernel
theorem dL_law_8 : decode cL_law 8 = .ok (.new 10, 3) := by decide +kernel
theorem dL_law_11 : decode cL_law 11 = .ok (.dup, 1) := by decide +kernel
theorem dL_law_12 : decode cL_law 12 = .ok (.invokespecial 12, 3) := by decide +kernel
theorem dL_law_15 : decode cL_law 15 = .ok (.astore_n 2, 1) := by decide +kernel
theorem dL_law_16 : decode cL_law 16 = .ok (.iconst 0, 1) := by decide +kernel
theorem dL_law_17 : decode cL_law 17 = .ok (.istore_n 3, 1) := by decide +kernel
set_option maxHeartbeats 8000000 in
set_option maxRecDepth 100000 in
theorem whole_start {p : Program} {e : Env} {s : State} {m : MethodId} {below : List Frame} {meth : Method} {c : Code} (l : Launch) (hflags : l.flags = flags0) {b L : Nat} {xs : Nat → Int32} (hL : L ≤ 2560) (C0 : lw_At p s m meth c b L xs) : W p l e room_1 s m #[Value.ref b] below meth c s.heap [] 0 0 (lw_Z below #[Value.ref b] s) (entryFrame m ([Value.ref b] : List Value).toArray 4) := by
  obtain ⟨hx, hb, hr, hml, hown, hts0, hX, hbl, hlocks, hgv⟩ := id C0
  have hts : ∀ x ∈ zT, x.before #[Value.ref b] s = true := fun x hx => hts0 x (zT_in x hx)
  have hA : ∀ q : Nat, s.heap.size ≤ q → (fun q : Nat => s.heap.size ≤ q) q := fun _ h => h
  obtain ⟨k0, iS0, hK0⟩ := u_known (C := RX0) (T := TX0) (N := 3) (n := 3) hts zin0 (hts _ zm113)
  obtain ⟨k1, iS1, hK1⟩ := u_known (C := RX1) (T := TX1) (N := 3) (n := 3) hts zin1 (hts _ zm151)
  obtain ⟨k2, iS2, hK2⟩ := u_known (C := RX2) (T := TX2) (N := 2) (n := 2) hts zin2 (hts _ zm164)
  obtain ⟨k3, iS3, hK3⟩ := u_known (C := RX3) (T := TX3) (N := 8) (n := 8) hts zin3 (hts _ zm68)
  obtain ⟨k4, iS4, hK4⟩ := u_known (C := RX4) (T := TX4) (N := 6) (n := 6) hts zin4 (hts _ zm134)
  obtain ⟨k5, iS5, hK5⟩ := u_known (C := RX5) (T := TX5) (N := 2) (n := 2) hts zin5 (hts _ zm124)
  obtain ⟨k6, iS6, hK6⟩ := u_known (C := RX6) (T := TX6) (N := 1) (n := 1) hts zin6 (hts _ zm89)
  obtain ⟨k7, iS7, hK7⟩ := u_known (C := RX7) (T := TX7) (N := 5) (n := 5) hts zin7 (hts _ zm52)
  obtain ⟨k8, iS8, hK8⟩ := u_known (C := RX8) (T := TX8) (N := 11) (n := 11) hts zin8 (hts _ zm44)
  obtain ⟨k9, iS9, hK9⟩ := u_known (C := RX9) (T := TX9) (N := 34) (n := 34) hts zin9 (hts _ zm672)
  obtain ⟨D, hKc⟩ : ∃ D : va_G, ∀ (k : Nat) (q : vw_C), vwCl[k]? = some q → u_Kn s q.1 q.2.1 q.2.2 (D.1 k) (D.2 k) := by
    refine ⟨(fun k => if k = 0 then k0 else if k = 1 then k1 else if k = 2 then k2 else if k = 3 then k3 else if k = 4 then k4 else if k = 5 then k5 else if k = 6 then k6 else if k = 7 then k7 else if k = 8 then k8 else k9, fun k => if k = 0 then iS0 else if k = 1 then iS1 else if k = 2 then iS2 else if k = 3 then iS3 else if k = 4 then iS4 else if k = 5 then iS5 else if k = 6 then iS6 else if k = 7 then iS7 else if k = 8 then iS8 else iS9), ?_⟩
    intro k q hq
    match k, hq with
    | 0, hq => cases hq; exact hK0
    | 1, hq => cases hq; exact hK1
    | 2, hq => cases hq; exact hK2
    | 3, hq => cases hq; exact hK3
    | 4, hq => cases hq; exact hK4
    | 5, hq => cases hq; exact hK5
    | 6, hq => cases hq; exact hK6
    | 7, hq => cases hq; exact hK7
    | 8, hq => cases hq; exact hK8
    | 9, hq => cases hq; exact hK9
    | k + 10, hq => simp at hq
  have hK0 : va_K D vwCl [] s := ⟨hKc, fun k q h => by simp at h⟩
  obtain ⟨cI, cZ, hK⟩ := zK_of hts hK0
  have hN : ∀ x ∈ zN, va_Nw x s := fun x hx => va_Nw.of (List.all_eq_true.mp zN_tab x hx) (hts0 x (zN_in x hx))
  have Z : zAt p s m #[Value.ref b] meth c D cI cZ (fun q : Nat => s.heap.size ≤ q) "SurpriseTaxLaw" cL_law 4 ret := ⟨hx, hb, hr, hml, hts, hown, hlocks, hK, hN, hA⟩
  have hS : va_S (fun q : Nat => s.heap.size ≤ q) s.heap s.heap [] := va_S.rf
  have hP : va_P D vwCl [] s.heap := fun k q h => by simp at h
  have hD : va_D (fun q : Nat => s.heap.size ≤ q) [] := ⟨fun i j p q h => by simp at h, fun k q h => by simp at h⟩
  have hl := lv_entry ([.ref b]) (n := 4) (Nat.le_of_ble_eq_true rfl)
  rw [lg_entry_eq]
  generalize (lg_sl ([.ref b]) ++ List.replicate (4 - (lg_sl ([.ref b])).length) Slot.unset).toArray = ls at hl ⊢
  have hl : lv_has ls 4 [(0, .ref b)] := hl
  obtain ⟨H, hH⟩ : ∃ H, H = s.heap := ⟨_, rfl⟩
  obtain ⟨locs, hlo⟩ : ∃ q : List Loc, q = [] := ⟨_, rfl⟩
  have hP : va_P D vwCl [] H := by rw [hH]; exact hP
  have hS : va_S (fun q : Nat => s.heap.size ≤ q) s.heap H locs := by rw [hH, hlo]; exact hS
  rw [← hlo]
  have e9 : W p l e room_1 s m #[Value.ref b] below meth c s.heap locs 0 0 (lw_Z below #[Value.ref b] s) (F0 m 0 ls []) = W p l e room_1 s m #[Value.ref b] below meth c H locs 0 0 (lw_Z below #[Value.ref b] s) (F0 m 0 ls []) := by rw [hH]
  refine e9.mpr ?_
  clear e9
  refine z_newO (ci := 8) (fs := [.null, .null, .null, .null, .null, .null, .null, .null, .null, .null, .long 0]) (N := 11) Z zin8 tyX8 tyX8_ok hP hD hS zm43 zm44 zm30 rfl (by decide +kernel) (Nat.le_of_ble_eq_true rfl) (Nat.le_of_ble_eq_true rfl) dL_law_0 (fun q_1 H hP hD hS => ?_)
  have hP : va_P D vwCl [(q_1, .inr (8, [.null, .null, .null, .null, .null, .null, .null, .null, .null, .null, .long 0]))] H := hP
  have hD : va_D (fun q : Nat => s.heap.size ≤ q) [(q_1, .inr (8, [.null, .null, .null, .null, .null, .null, .null, .null, .null, .null, .long 0]))] := hD
  refine lv_dup hx hb dL_law_3 rfl ?_
  refine z_callC (As := []) (rest := [.ref q_1]) Z hP hD hS hl.1 (zc_X8_init l D cI cZ q_1) zm45 zm46 zm30 zm47 zd_X8_init rfl ⟨Nat.le_of_ble_eq_true rfl, Nat.le_of_ble_eq_true rfl⟩ ⟨Nat.le_of_ble_eq_true rfl, Nat.le_of_ble_eq_true rfl⟩ [0] [] rfl (wr := []) rfl rfl rfl (by decide) rfl (Nat.le_of_ble_eq_true rfl) rfl dL_law_4 (fun u H locs h_ hP hD hS => ?_)
  obtain ⟨tx_2, tb_3, tt_4, r_5, ro_6, rn_7, rr_8, a_9, b_10, r2_11, ro2_12, rn2_13, rr2_14, a2_15, b2_16, x_17, xs_18, y_19, ys_20, yk_21, z_22, zp_23, zd_24, v_25, a3_26, b3_27, h_28, a4_29, b4_30⟩ := u
  have hP : va_P D vwCl [(q_1, .inr (8, [.ref tx_2, .ref r_5, .ref a_9, .ref r2_11, .ref a2_15, .ref x_17, .ref y_19, .ref z_22, .ref v_25, .ref h_28, .long 0])), (tx_2, .inr (7, [.ref tb_3, .ref tt_4, .int (nI 0), .int (nI 0), .int (-9)])), (tb_3, .inl (cI, 64, .inl zO)), (tt_4, .inl (cI, 4, .inl zO)), (r_5, .inr (3, [.ref ro_6, .ref rn_7, .ref rr_8, .int (nI 0), .int (nI 0), .int (nI 0), .int (nI 0), .int (nI 0)])), (ro_6, .inl (cI, 4, .inl (zI1 4))), (rn_7, .inl (cI, 5, .inl zO)), (rr_8, .inl (cI, 5, .inl zO)), (a_9, .inr (6, [.ref b_10])), (b_10, .inl (cI, 36, .inl zF0)), (r2_11, .inr (3, [.ref ro2_12, .ref rn2_13, .ref rr2_14, .int (nI 0), .int (nI 0), .int (nI 0), .int (nI 0), .int (nI 0)])), (ro2_12, .inl (cI, 4, .inl zO)), (rn2_13, .inl (cI, 5, .inl zO)), (rr2_14, .inl (cI, 5, .inl zO)), (a2_15, .inr (6, [.ref b2_16])), (b2_16, .inl (cI, 36, .inl zF0)), (x_17, .inr (0, [.ref xs_18, .int (nI 0), .int (nI 0)])), (xs_18, .inl (cI, 432, .inl zO)), (y_19, .inr (5, [.ref ys_20, .ref yk_21])), (ys_20, .inl (cI, 72, .inl zO)), (yk_21, .inl (cZ, 2, .inl zO)), (z_22, .inr (4, [.ref zp_23, .ref zd_24, .int (nI 0), .int (nI 0), .int (nI 0), .int (nI 0)])), (zp_23, .inl (cI, 6, .inl zO)), (zd_24, .inl (cI, 6, .inl zO)), (v_25, .inr (1, [.ref a3_26, .int (-9), .int (nI 0)])), (a3_26, .inr (6, [.ref b3_27])), (b3_27, .inl (cI, 36, .inl zF0)), (h_28, .inr (2, [.ref a4_29, .int (nI 0)])), (a4_29, .inr (6, [.ref b4_30])), (b4_30, .inl (cI, 36, .inl zF0))] H := hP
  have hD : va_D (fun q : Nat => s.heap.size ≤ q) [(q_1, .inr (8, [.ref tx_2, .ref r_5, .ref a_9, .ref r2_11, .ref a2_15, .ref x_17, .ref y_19, .ref z_22, .ref v_25, .ref h_28, .long 0])), (tx_2, .inr (7, [.ref tb_3, .ref tt_4, .int (nI 0), .int (nI 0), .int (-9)])), (tb_3, .inl (cI, 64, .inl zO)), (tt_4, .inl (cI, 4, .inl zO)), (r_5, .inr (3, [.ref ro_6, .ref rn_7, .ref rr_8, .int (nI 0), .int (nI 0), .int (nI 0), .int (nI 0), .int (nI 0)])), (ro_6, .inl (cI, 4, .inl (zI1 4))), (rn_7, .inl (cI, 5, .inl zO)), (rr_8, .inl (cI, 5, .inl zO)), (a_9, .inr (6, [.ref b_10])), (b_10, .inl (cI, 36, .inl zF0)), (r2_11, .inr (3, [.ref ro2_12, .ref rn2_13, .ref rr2_14, .int (nI 0), .int (nI 0), .int (nI 0), .int (nI 0), .int (nI 0)])), (ro2_12, .inl (cI, 4, .inl zO)), (rn2_13, .inl (cI, 5, .inl zO)), (rr2_14, .inl (cI, 5, .inl zO)), (a2_15, .inr (6, [.ref b2_16])), (b2_16, .inl (cI, 36, .inl zF0)), (x_17, .inr (0, [.ref xs_18, .int (nI 0), .int (nI 0)])), (xs_18, .inl (cI, 432, .inl zO)), (y_19, .inr (5, [.ref ys_20, .ref yk_21])), (ys_20, .inl (cI, 72, .inl zO)), (yk_21, .inl (cZ, 2, .inl zO)), (z_22, .inr (4, [.ref zp_23, .ref zd_24, .int (nI 0), .int (nI 0), .int (nI 0), .int (nI 0)])), (zp_23, .inl (cI, 6, .inl zO)), (zd_24, .inl (cI, 6, .inl zO)), (v_25, .inr (1, [.ref a3_26, .int (-9), .int (nI 0)])), (a3_26, .inr (6, [.ref b3_27])), (b3_27, .inl (cI, 36, .inl zF0)), (h_28, .inr (2, [.ref a4_29, .int (nI 0)])), (a4_29, .inr (6, [.ref b4_30])), (b4_30, .inl (cI, 36, .inl zF0))] := hD
  refine lv_astore_n (lv' := [(1, .ref q_1), (0, .ref b)]) hx hb dL_law_7 rfl hl (by decide) rfl (fun ls hl => ?_)
  refine z_newO (ci := 9) (fs := [.int (nI 0), .null, .int (nI 0), .int (nI 0), .int (nI 0), .int (nI 0), .int (nI 0), .null, .int (nI 0), .null, .null, .int (nI 0), .int (nI 0), .int (nI 0), .int (nI 0), .null, .int (nI 0), .null, .null, .int (nI 0), .null, .null, .null, .int (nI 0), .null, .null, .int (nI 0), .null, .null, .long 0, .null, .null, .null, .int (nI 0)]) (N := 34) Z zin9 tyX9 tyX9_ok hP hD hS zm671 zm672 zm39 rfl (by decide +kernel) (Nat.le_of_ble_eq_true rfl) (Nat.le_of_ble_eq_true rfl) dL_law_8 (fun q_31 H hP hD hS => ?_)
  have hP : va_P D vwCl [(q_1, .inr (8, [.ref tx_2, .ref r_5, .ref a_9, .ref r2_11, .ref a2_15, .ref x_17, .ref y_19, .ref z_22, .ref v_25, .ref h_28, .long 0])), (tx_2, .inr (7, [.ref tb_3, .ref tt_4, .int (nI 0), .int (nI 0), .int (-9)])), (tb_3, .inl (cI, 64, .inl zO)), (tt_4, .inl (cI, 4, .inl zO)), (r_5, .inr (3, [.ref ro_6, .ref rn_7, .ref rr_8, .int (nI 0), .int (nI 0), .int (nI 0), .int (nI 0), .int (nI 0)])), (ro_6, .inl (cI, 4, .inl (zI1 4))), (rn_7, .inl (cI, 5, .inl zO)), (rr_8, .inl (cI, 5, .inl zO)), (a_9, .inr (6, [.ref b_10])), (b_10, .inl (cI, 36, .inl zF0)), (r2_11, .inr (3, [.ref ro2_12, .ref rn2_13, .ref rr2_14, .int (nI 0), .int (nI 0), .int (nI 0), .int (nI 0), .int (nI 0)])), (ro2_12, .inl (cI, 4, .inl zO)), (rn2_13, .inl (cI, 5, .inl zO)), (rr2_14, .inl (cI, 5, .inl zO)), (a2_15, .inr (6, [.ref b2_16])), (b2_16, .inl (cI, 36, .inl zF0)), (x_17, .inr (0, [.ref xs_18, .int (nI 0), .int (nI 0)])), (xs_18, .inl (cI, 432, .inl zO)), (y_19, .inr (5, [.ref ys_20, .ref yk_21])), (ys_20, .inl (cI, 72, .inl zO)), (yk_21, .inl (cZ, 2, .inl zO)), (z_22, .inr (4, [.ref zp_23, .ref zd_24, .int (nI 0), .int (nI 0), .int (nI 0), .int (nI 0)])), (zp_23, .inl (cI, 6, .inl zO)), (zd_24, .inl (cI, 6, .inl zO)), (v_25, .inr (1, [.ref a3_26, .int (-9), .int (nI 0)])), (a3_26, .inr (6, [.ref b3_27])), (b3_27, .inl (cI, 36, .inl zF0)), (h_28, .inr (2, [.ref a4_29, .int (nI 0)])), (a4_29, .inr (6, [.ref b4_30])), (b4_30, .inl (cI, 36, .inl zF0)), (q_31, .inr (9, [.int (nI 0), .null, .int (nI 0), .int (nI 0), .int (nI 0), .int (nI 0), .int (nI 0), .null, .int (nI 0), .null, .null, .int (nI 0), .int (nI 0), .int (nI 0), .int (nI 0), .null, .int (nI 0), .null, .null, .int (nI 0), .null, .null, .null, .int (nI 0), .null, .null, .int (nI 0), .null, .null, .long 0, .null, .null, .null, .int (nI 0)]))] H := hP
  have hD : va_D (fun q : Nat => s.heap.size ≤ q) [(q_1, .inr (8, [.ref tx_2, .ref r_5, .ref a_9, .ref r2_11, .ref a2_15, .ref x_17, .ref y_19, .ref z_22, .ref v_25, .ref h_28, .long 0])), (tx_2, .inr (7, [.ref tb_3, .ref tt_4, .int (nI 0), .int (nI 0), .int (-9)])), (tb_3, .inl (cI, 64, .inl zO)), (tt_4, .inl (cI, 4, .inl zO)), (r_5, .inr (3, [.ref ro_6, .ref rn_7, .ref rr_8, .int (nI 0), .int (nI 0), .int (nI 0), .int (nI 0), .int (nI 0)])), (ro_6, .inl (cI, 4, .inl (zI1 4))), (rn_7, .inl (cI, 5, .inl zO)), (rr_8, .inl (cI, 5, .inl zO)), (a_9, .inr (6, [.ref b_10])), (b_10, .inl (cI, 36, .inl zF0)), (r2_11, .inr (3, [.ref ro2_12, .ref rn2_13, .ref rr2_14, .int (nI 0), .int (nI 0), .int (nI 0), .int (nI 0), .int (nI 0)])), (ro2_12, .inl (cI, 4, .inl zO)), (rn2_13, .inl (cI, 5, .inl zO)), (rr2_14, .inl (cI, 5, .inl zO)), (a2_15, .inr (6, [.ref b2_16])), (b2_16, .inl (cI, 36, .inl zF0)), (x_17, .inr (0, [.ref xs_18, .int (nI 0), .int (nI 0)])), (xs_18, .inl (cI, 432, .inl zO)), (y_19, .inr (5, [.ref ys_20, .ref yk_21])), (ys_20, .inl (cI, 72, .inl zO)), (yk_21, .inl (cZ, 2, .inl zO)), (z_22, .inr (4, [.ref zp_23, .ref zd_24, .int (nI 0), .int (nI 0), .int (nI 0), .int (nI 0)])), (zp_23, .inl (cI, 6, .inl zO)), (zd_24, .inl (cI, 6, .inl zO)), (v_25, .inr (1, [.ref a3_26, .int (-9), .int (nI 0)])), (a3_26, .inr (6, [.ref b3_27])), (b3_27, .inl (cI, 36, .inl zF0)), (h_28, .inr (2, [.ref a4_29, .int (nI 0)])), (a4_29, .inr (6, [.ref b4_30])), (b4_30, .inl (cI, 36, .inl zF0)), (q_31, .inr (9, [.int (nI 0), .null, .int (nI 0), .int (nI 0), .int (nI 0), .int (nI 0), .int (nI 0), .null, .int (nI 0), .null, .null, .int (nI 0), .int (nI 0), .int (nI 0), .int (nI 0), .null, .int (nI 0), .null, .null, .int (nI 0), .null, .null, .null, .int (nI 0), .null, .null, .int (nI 0), .null, .null, .long 0, .null, .null, .null, .int (nI 0)]))] := hD
  refine lv_dup hx hb dL_law_11 rfl ?_
  refine z_callC (As := []) (rest := [.ref q_31]) Z hP hD hS hl.1 (zc_X9_init l D cI cZ q_31) zm673 zm674 zm39 zm675 zd_X9_init rfl ⟨Nat.le_of_ble_eq_true rfl, Nat.le_of_ble_eq_true rfl⟩ ⟨Nat.le_of_ble_eq_true rfl, Nat.le_of_ble_eq_true rfl⟩ [30] [0, 1, 2, 3, 4, 5, 6, 7, 8, 9, 10, 11, 12, 13, 14, 15, 16, 17, 18, 19, 20, 21, 22, 23, 24, 25, 26, 27, 28, 29] rfl (wr := [(q_1, .inr (8, [.ref tx_2, .ref r_5, .ref a_9, .ref r2_11, .ref a2_15, .ref x_17, .ref y_19, .ref z_22, .ref v_25, .ref h_28, .long 0])), (tx_2, .inr (7, [.ref tb_3, .ref tt_4, .int (nI 0), .int (nI 0), .int (-9)])), (tb_3, .inl (cI, 64, .inl zO)), (tt_4, .inl (cI, 4, .inl zO)), (r_5, .inr (3, [.ref ro_6, .ref rn_7, .ref rr_8, .int (nI 0), .int (nI 0), .int (nI 0), .int (nI 0), .int (nI 0)])), (ro_6, .inl (cI, 4, .inl (zI1 4))), (rn_7, .inl (cI, 5, .inl zO)), (rr_8, .inl (cI, 5, .inl zO)), (a_9, .inr (6, [.ref b_10])), (b_10, .inl (cI, 36, .inl zF0)), (r2_11, .inr (3, [.ref ro2_12, .ref rn2_13, .ref rr2_14, .int (nI 0), .int (nI 0), .int (nI 0), .int (nI 0), .int (nI 0)])), (ro2_12, .inl (cI, 4, .inl zO)), (rn2_13, .inl (cI, 5, .inl zO)), (rr2_14, .inl (cI, 5, .inl zO)), (a2_15, .inr (6, [.ref b2_16])), (b2_16, .inl (cI, 36, .inl zF0)), (x_17, .inr (0, [.ref xs_18, .int (nI 0), .int (nI 0)])), (xs_18, .inl (cI, 432, .inl zO)), (y_19, .inr (5, [.ref ys_20, .ref yk_21])), (ys_20, .inl (cI, 72, .inl zO)), (yk_21, .inl (cZ, 2, .inl zO)), (z_22, .inr (4, [.ref zp_23, .ref zd_24, .int (nI 0), .int (nI 0), .int (nI 0), .int (nI 0)])), (zp_23, .inl (cI, 6, .inl zO)), (zd_24, .inl (cI, 6, .inl zO)), (v_25, .inr (1, [.ref a3_26, .int (-9), .int (nI 0)])), (a3_26, .inr (6, [.ref b3_27])), (b3_27, .inl (cI, 36, .inl zF0)), (h_28, .inr (2, [.ref a4_29, .int (nI 0)])), (a4_29, .inr (6, [.ref b4_30])), (b4_30, .inl (cI, 36, .inl zF0))]) rfl rfl rfl (by decide) rfl (Nat.le_of_ble_eq_true rfl) rfl dL_law_12 (fun u H locs h_ hP hD hS => ?_)
  obtain ⟨mtx_32, mod__33, mne_34, mro_35, mrod_36, mrne_37, mrro_38, mrp_39, mpg_40, mbk_41, mke_42, mik_43, mrw_44, mrd_45, mtr_46, mwo_47, mnx_48⟩ := u
  have hP : va_P D vwCl [(q_1, .inr (8, [.ref tx_2, .ref r_5, .ref a_9, .ref r2_11, .ref a2_15, .ref x_17, .ref y_19, .ref z_22, .ref v_25, .ref h_28, .long 0])), (tx_2, .inr (7, [.ref tb_3, .ref tt_4, .int (nI 0), .int (nI 0), .int (-9)])), (tb_3, .inl (cI, 64, .inl zO)), (tt_4, .inl (cI, 4, .inl zO)), (r_5, .inr (3, [.ref ro_6, .ref rn_7, .ref rr_8, .int (nI 0), .int (nI 0), .int (nI 0), .int (nI 0), .int (nI 0)])), (ro_6, .inl (cI, 4, .inl (zI1 4))), (rn_7, .inl (cI, 5, .inl zO)), (rr_8, .inl (cI, 5, .inl zO)), (a_9, .inr (6, [.ref b_10])), (b_10, .inl (cI, 36, .inl zF0)), (r2_11, .inr (3, [.ref ro2_12, .ref rn2_13, .ref rr2_14, .int (nI 0), .int (nI 0), .int (nI 0), .int (nI 0), .int (nI 0)])), (ro2_12, .inl (cI, 4, .inl zO)), (rn2_13, .inl (cI, 5, .inl zO)), (rr2_14, .inl (cI, 5, .inl zO)), (a2_15, .inr (6, [.ref b2_16])), (b2_16, .inl (cI, 36, .inl zF0)), (x_17, .inr (0, [.ref xs_18, .int (nI 0), .int (nI 0)])), (xs_18, .inl (cI, 432, .inl zO)), (y_19, .inr (5, [.ref ys_20, .ref yk_21])), (ys_20, .inl (cI, 72, .inl zO)), (yk_21, .inl (cZ, 2, .inl zO)), (z_22, .inr (4, [.ref zp_23, .ref zd_24, .int (nI 0), .int (nI 0), .int (nI 0), .int (nI 0)])), (zp_23, .inl (cI, 6, .inl zO)), (zd_24, .inl (cI, 6, .inl zO)), (v_25, .inr (1, [.ref a3_26, .int (-9), .int (nI 0)])), (a3_26, .inr (6, [.ref b3_27])), (b3_27, .inl (cI, 36, .inl zF0)), (h_28, .inr (2, [.ref a4_29, .int (nI 0)])), (a4_29, .inr (6, [.ref b4_30])), (b4_30, .inl (cI, 36, .inl zF0)), (q_31, .inr (9, [.int (nI 0), .ref mtx_32, .int (nI 0), .int (nI 0), .int (nI 0), .int (nI 0), .int (nI 0), .ref mod__33, .int (nI 0), .ref mne_34, .ref mro_35, .int (nI 0), .int (nI 0), .int (nI 0), .int (nI 0), .ref mrod_36, .int (nI 0), .ref mrne_37, .ref mrro_38, .int (nI 0), .ref mrp_39, .ref mpg_40, .ref mbk_41, .int (nI 0), .ref mke_42, .ref mik_43, .int (nI 0), .ref mrw_44, .ref mrd_45, .long 0, .ref mtr_46, .ref mwo_47, .ref mnx_48, .int (nI 0)])), (mtx_32, .inl (cI, 64, .inl zO)), (mod__33, .inl (cI, 4, .inl (zI1 4))), (mne_34, .inl (cI, 5, .inl zO)), (mro_35, .inl (cI, 5, .inl zO)), (mrod_36, .inl (cI, 4, .inl zO)), (mrne_37, .inl (cI, 5, .inl zO)), (mrro_38, .inl (cI, 5, .inl zO)), (mrp_39, .inl (cI, 36, .inl zO)), (mpg_40, .inl (cI, 36, .inl zO)), (mbk_41, .inl (cI, 432, .inl zO)), (mke_42, .inl (cI, 72, .inl zO)), (mik_43, .inl (cZ, 2, .inl zO)), (mrw_44, .inl (cI, 6, .inl zO)), (mrd_45, .inl (cI, 6, .inl zO)), (mtr_46, .inl (cI, 36, .inl zO)), (mwo_47, .inl (cI, 64, .inl zO)), (mnx_48, .inl (cI, 64, .inl zO))] H := hP
  have hD : va_D (fun q : Nat => s.heap.size ≤ q) [(q_1, .inr (8, [.ref tx_2, .ref r_5, .ref a_9, .ref r2_11, .ref a2_15, .ref x_17, .ref y_19, .ref z_22, .ref v_25, .ref h_28, .long 0])), (tx_2, .inr (7, [.ref tb_3, .ref tt_4, .int (nI 0), .int (nI 0), .int (-9)])), (tb_3, .inl (cI, 64, .inl zO)), (tt_4, .inl (cI, 4, .inl zO)), (r_5, .inr (3, [.ref ro_6, .ref rn_7, .ref rr_8, .int (nI 0), .int (nI 0), .int (nI 0), .int (nI 0), .int (nI 0)])), (ro_6, .inl (cI, 4, .inl (zI1 4))), (rn_7, .inl (cI, 5, .inl zO)), (rr_8, .inl (cI, 5, .inl zO)), (a_9, .inr (6, [.ref b_10])), (b_10, .inl (cI, 36, .inl zF0)), (r2_11, .inr (3, [.ref ro2_12, .ref rn2_13, .ref rr2_14, .int (nI 0), .int (nI 0), .int (nI 0), .int (nI 0), .int (nI 0)])), (ro2_12, .inl (cI, 4, .inl zO)), (rn2_13, .inl (cI, 5, .inl zO)), (rr2_14, .inl (cI, 5, .inl zO)), (a2_15, .inr (6, [.ref b2_16])), (b2_16, .inl (cI, 36, .inl zF0)), (x_17, .inr (0, [.ref xs_18, .int (nI 0), .int (nI 0)])), (xs_18, .inl (cI, 432, .inl zO)), (y_19, .inr (5, [.ref ys_20, .ref yk_21])), (ys_20, .inl (cI, 72, .inl zO)), (yk_21, .inl (cZ, 2, .inl zO)), (z_22, .inr (4, [.ref zp_23, .ref zd_24, .int (nI 0), .int (nI 0), .int (nI 0), .int (nI 0)])), (zp_23, .inl (cI, 6, .inl zO)), (zd_24, .inl (cI, 6, .inl zO)), (v_25, .inr (1, [.ref a3_26, .int (-9), .int (nI 0)])), (a3_26, .inr (6, [.ref b3_27])), (b3_27, .inl (cI, 36, .inl zF0)), (h_28, .inr (2, [.ref a4_29, .int (nI 0)])), (a4_29, .inr (6, [.ref b4_30])), (b4_30, .inl (cI, 36, .inl zF0)), (q_31, .inr (9, [.int (nI 0), .ref mtx_32, .int (nI 0), .int (nI 0), .int (nI 0), .int (nI 0), .int (nI 0), .ref mod__33, .int (nI 0), .ref mne_34, .ref mro_35, .int (nI 0), .int (nI 0), .int (nI 0), .int (nI 0), .ref mrod_36, .int (nI 0), .ref mrne_37, .ref mrro_38, .int (nI 0), .ref mrp_39, .ref mpg_40, .ref mbk_41, .int (nI 0), .ref mke_42, .ref mik_43, .int (nI 0), .ref mrw_44, .ref mrd_45, .long 0, .ref mtr_46, .ref mwo_47, .ref mnx_48, .int (nI 0)])), (mtx_32, .inl (cI, 64, .inl zO)), (mod__33, .inl (cI, 4, .inl (zI1 4))), (mne_34, .inl (cI, 5, .inl zO)), (mro_35, .inl (cI, 5, .inl zO)), (mrod_36, .inl (cI, 4, .inl zO)), (mrne_37, .inl (cI, 5, .inl zO)), (mrro_38, .inl (cI, 5, .inl zO)), (mrp_39, .inl (cI, 36, .inl zO)), (mpg_40, .inl (cI, 36, .inl zO)), (mbk_41, .inl (cI, 432, .inl zO)), (mke_42, .inl (cI, 72, .inl zO)), (mik_43, .inl (cZ, 2, .inl zO)), (mrw_44, .inl (cI, 6, .inl zO)), (mrd_45, .inl (cI, 6, .inl zO)), (mtr_46, .inl (cI, 36, .inl zO)), (mwo_47, .inl (cI, 64, .inl zO)), (mnx_48, .inl (cI, 64, .inl zO))] := hD
  refine lv_astore_n (lv' := [(2, .ref q_31), (1, .ref q_1), (0, .ref b)]) hx hb dL_law_15 rfl hl (by decide) rfl (fun ls hl => ?_)
  refine lv_iconst (v := nI 0) hx hb dL_law_16 (by decide) ?_
  refine lv_istore_n (lv' := [(3, .int (nI 0)), (2, .ref q_31), (1, .ref q_1), (0, .ref b)]) hx hb dL_law_17 rfl hl (by decide) rfl (fun ls hl => ?_)
  have hl : lv_has ls 4 [(0, .ref b), (1, .ref q_1), (2, .ref q_31), (3, .int (nI 0))] := lv_sub hl [3, 2, 1, 0] rfl
  have h0 : zLI D cI cZ (fun q : Nat => s.heap.size ≤ q) s b q_1 tx_2 tb_3 tt_4 r_5 ro_6 rn_7 rr_8 a_9 b_10 r2_11 ro2_12 rn2_13 rr2_14 a2_15 b2_16 x_17 xs_18 y_19 ys_20 yk_21 z_22 zp_23 zd_24 v_25 a3_26 b3_27 h_28 a4_29 b4_30 q_31 mtx_32 mod__33 mne_34 mro_35 mrod_36 mrne_37 mrro_38 mrp_39 mpg_40 mbk_41 mke_42 mik_43 mrw_44 mrd_45 mtr_46 mwo_47 mnx_48 0 H locs ls := ⟨0, 0, 0, 0, 0, 0, 0, 0, 0, 0, 0, 0, 0, 0, 0, (-9), (nI 0), (nI 0), (nI 0), (nI 0), (nI 0), (nI 0), (-9), (nI 0), (nI 0), (nI 0), (nI 0), (nI 0), (nI 0), (nI 0), 0, zO, zO, (zI1 4), zO, zO, zF0, zO, zO, zO, zF0, zO, zO, zO, zO, zO, zF0, zF0, zO, zO, zO, zO, zO, zO, zO, zO, zO, zO, zO, zO, hP, hD, hS, hl, zrel_0⟩
  refine W.widen (k := 48) (n := 1690) (Nat.le_of_ble_eq_true rfl) (Nat.le_of_ble_eq_true rfl) ?_
  exact zlaw_loop hL C0 Z h0
set_option maxHeartbeats 4000000 in
theorem lw_walk (l : Launch) (hflags : l.flags = flags0) (b : Addr) (xs : List Int32) : MetFree l x (headSpec (Jvm.Cond.code x code maxLocals ret :: tables_1) room_1) (lw_P b xs) (fun _ _ _ _ _ => True) lw_Q := by
  refine MetFree.of_bodyS (code := code) (maxLocals := maxLocals) (ret := ret) (by decide) ?_ ?_
  · intro args s m h hn
    obtain ⟨meth, c, h1, h2, h3, h4, h5, h6, -, -⟩ := Cond.code_spec hn (atoms_spec (ws := Jvm.Cond.code x code maxLocals ret :: tables_1) h _ List.mem_cons_self)
    exact ⟨meth, c, h1, h2, h3, h4, h5, h6⟩
  · intro p e s m args below meth c s₁ B hml0 hP _
    obtain ⟨rfl, hx, hbd, hgv⟩ := hP
    obtain ⟨scr, harrAt, hlist, hof, hsmall⟩ := hx
    obtain ⟨hcb, hkn, -, -⟩ := State.arrayAt?_spec harrAt
    have hown : s.vm.findClass R_law = some m.cls := findClass_of_methodNamed B.named
    have hts0 : ∀ c ∈ (Jvm.Cond.code x code maxLocals ret :: tables_1), c.before #[Value.ref b] s = true := atoms_spec (ws := Jvm.Cond.code x code maxLocals ret :: tables_1) B.pre
    have hts : ∀ w ∈ lw_tbl, w.before #[Value.ref b] s = true := k2_hts_sels lw_privs (fun w hw => hts0 w (List.mem_cons_of_mem _ hw)) lw_privs_ok
    have hml : c.maxLocals = 4 := B.maxLocals_eq (hts0 _ List.mem_cons_self)
    have X₀ : Stand p l e room_1 s m #[Value.ref b] below meth c s₁ [] 0 0 := Stand.of_body B
    have hh0 : s₁.heap = s.heap := by rw [B.state]; rfl
    have hsz : scr.slots.size = xs.length := by rw [← Array.length_toList, hlist, List.length_map]
    have hval : ∀ j : Nat, j < xs.length → scr.slots[j]? = some (.int (xs.getD j 0)) := fun j hj => by
      rw [← Array.getElem?_toList, hlist]
      simp [hj]
    have hbl : b < s.heap.size := (Array.getElem?_eq_some_iff.mp hcb).1
    have hX : va_X b xs.length (fun j => xs.getD j 0) s s.heap := ⟨scr, hcb, hof, hkn, hsz, hval⟩
    have K : W p l e room_1 s m #[Value.ref b] below meth c s₁.heap [] 0 0 (lw_Z below #[Value.ref b] s) (entryFrame m ([Value.ref b] : List Value).toArray 4) := by
      rw [hh0]
      exact whole_start l hflags hbd ⟨B.exec, B.bytes, B.returns, hml, hown, hts, hX, hbl, B.notSynchronized, hgv⟩
    obtain ⟨t, a1, o, b1, b2, b3⟩ := K s₁ rfl X₀
    exact ⟨t, o, a1, b1, b2, b3⟩
theorem lw_pre_spec {args : Array Value} {s : State} (h : (Jvm.Cond.and given_1 narrow_1).before args s = true) (hr : rest_1_c.before args s = true) : ∃ (b : Addr) (xs : List Int32), lw_P b xs args s := by
  have hs := flat_of_before _ h
  have hq := flat_of_before _ hr
  have hc : (Cond.count 1).before args s = true := hs _ (by decide +kernel)
  have harr : (Cond.arrayOf (.arg 0) .int).before args s = true := hs _ (by decide +kernel)
  have hle : (Cond.le (.length (.arg 0)) (.int 2560)).before args s = true := hs _ (by decide +kernel)
  have hlen : (Cond.isInt (.length (.arg 0))).before args s = true := hq _ (by decide +kernel)
  have hall : (Cond.all (.arg 0) (.isInt (.elem (.arg 0) (.index 0)))).before args s = true := hq _ (by decide +kernel)
  obtain ⟨b, xs, hb, hx⟩ := State.ints_of_pre rfl harr hlen hall
  have hsm : xs.length < 2 ^ 31 := hx.choose_spec.2.2.2
  have hev : (Term.length (.arg 0)).eval args s none [] s = some (.int xs.length.toInt32) := hx.length_eval hb
  have hv := Cond.le_ints hev (show (Term.int 2560).eval args s none [] s = some (.int 2560) from rfl)
  have hd : xs.length.toInt32 ≤ 2560 := by
    simpa [Cond.before, Cond.holds, hv] using hle
  have hN : xs.length ≤ 2560 := (Int32.ofNat_le_ofNat hsm (by decide)).mp (show Int32.ofNat xs.length ≤ Int32.ofNat 2560 from hd)
  exact ⟨b, xs, Cond.one_arg hc (show args[0]? = some (.ref b) from hb), hx, hN, h⟩
theorem lw_comes (l : Launch) (hflags : l.flags = flags0) : Comes l x (Jvm.Cond.code x code maxLocals ret :: tables_1) room_1 (fun tb e args s => Calls_1 tb e args s ∧ rest_1 tb e args s ∧ Pre_1 tb e args s)
    (fun _ _ args s o t => lw_Q args s o t) := by
  intro p e ha hc hk s m args below hf hfit hheap happ hpre
  obtain ⟨b, xs, hP⟩ := lw_pre_spec hpre.2.2 hpre.2.1
  obtain ⟨k, o, h1, h2, h3, hQ⟩ := lw_walk l hflags b xs p e ha hc hk s m args below hf ((Spec.applies_iff_loose hf).mp happ).1 hP trivial
  exact ⟨k, o, h1, h2, h3, hQ⟩
theorem lw_frame {s t : State} {o : Outcome} {args : Array Value} (h : Framed s o t [] 48 1690) :
    Framed s o t (fieldLocs frame_1_writes args s ++ arrayLocs frame_1_arrays args s ++ staticLocs frame_1_statics s) 48 1690 := h
theorem lw_limb (L : Cond) (hL : ∀ (args : Array Value) (s t : State), L.after args s (.returned (some (.int 1))) t = true) :
    ArmFor flags0 classFile x code maxLocals ret World_1 tables_1 room_1 Calls_1 rest_1 Pre_1
      (fun tb e a s o t => postC L tb e a s o t ∧ Framed s o t (fieldLocs frame_1_writes a s ++ arrayLocs frame_1_arrays a s ++ staticLocs frame_1_statics s) 48 1690) := by
  intro l hflags _ _ p e ha hc hk s m args below hf hfit hheap happ hpre
  obtain ⟨k, o, h1, h2, h3, rfl, hF⟩ := lw_comes l hflags p e ha hc hk s m args below hf hfit hheap happ hpre
  exact ⟨k, _, h1, h2, h3, hL args s _, lw_frame hF⟩
theorem i_vc : Claimed_1_1 ∧ Claimed_1_2 := ⟨lw_limb limb_1_1 (fun args s t => by simp [limb_1_1, Cond.after, Cond.holds, Cond.value]), lw_limb limb_1_2 (fun args s t => Cond.after_iff.mpr (by
  first | (rw [show limb_1_2 = Cond.eq .result (.int 1) from rfl, Cond.eq_ints (x := 1) (y := 1) rfl rfl]; simp; done) | (simp [limb_1_2, Cond.value, Term.eval]; done)))⟩
