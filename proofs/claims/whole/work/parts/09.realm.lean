theorem dJ6_bitCount_0f7a4_0 : decode cJ6_bitCount_0f7a4 0 = .ok (.iload_n 0, 1) := by decide +kernel
theorem dJ6_bitCount_0f7a4_1 : decode cJ6_bitCount_0f7a4 1 = .ok (.iload_n 0, 1) := by decide +kernel
theorem dJ6_bitCount_0f7a4_2 : decode cJ6_bitCount_0f7a4 2 = .ok (.iconst 1, 1) := by decide +kernel
theorem dJ6_bitCount_0f7a4_3 : decode cJ6_bitCount_0f7a4 3 = .ok (.iushr, 1) := by decide +kernel
theorem dJ6_bitCount_0f7a4_4 : decode cJ6_bitCount_0f7a4 4 = .ok (.ldc_w 265, 3) := by decide +kernel
theorem dJ6_bitCount_0f7a4_7 : decode cJ6_bitCount_0f7a4 7 = .ok (.iand, 1) := by decide +kernel
theorem dJ6_bitCount_0f7a4_8 : decode cJ6_bitCount_0f7a4 8 = .ok (.isub, 1) := by decide +kernel
theorem dJ6_bitCount_0f7a4_9 : decode cJ6_bitCount_0f7a4 9 = .ok (.istore_n 0, 1) := by decide +kernel
theorem dJ6_bitCount_0f7a4_10 : decode cJ6_bitCount_0f7a4 10 = .ok (.iload_n 0, 1) := by decide +kernel
theorem dJ6_bitCount_0f7a4_11 : decode cJ6_bitCount_0f7a4 11 = .ok (.ldc_w 266, 3) := by decide +kernel
theorem dJ6_bitCount_0f7a4_14 : decode cJ6_bitCount_0f7a4 14 = .ok (.iand, 1) := by decide +kernel
theorem dJ6_bitCount_0f7a4_15 : decode cJ6_bitCount_0f7a4 15 = .ok (.iload_n 0, 1) := by decide +kernel
theorem dJ6_bitCount_0f7a4_16 : decode cJ6_bitCount_0f7a4 16 = .ok (.iconst 2, 1) := by decide +kernel
theorem dJ6_bitCount_0f7a4_17 : decode cJ6_bitCount_0f7a4 17 = .ok (.iushr, 1) := by decide +kernel
theorem dJ6_bitCount_0f7a4_18 : decode cJ6_bitCount_0f7a4 18 = .ok (.ldc_w 266, 3) := by decide +kernel
theorem dJ6_bitCount_0f7a4_21 : decode cJ6_bitCount_0f7a4 21 = .ok (.iand, 1) := by decide +kernel
theorem dJ6_bitCount_0f7a4_22 : decode cJ6_bitCount_0f7a4 22 = .ok (.iadd, 1) := by decide +kernel
theorem dJ6_bitCount_0f7a4_23 : decode cJ6_bitCount_0f7a4 23 = .ok (.istore_n 0, 1) := by decide +kernel
theorem dJ6_bitCount_0f7a4_24 : decode cJ6_bitCount_0f7a4 24 = .ok (.iload_n 0, 1) := by decide +kernel
theorem dJ6_bitCount_0f7a4_25 : decode cJ6_bitCount_0f7a4 25 = .ok (.iload_n 0, 1) := by decide +kernel
theorem dJ6_bitCount_0f7a4_26 : decode cJ6_bitCount_0f7a4 26 = .ok (.iconst 4, 1) := by decide +kernel
theorem dJ6_bitCount_0f7a4_27 : decode cJ6_bitCount_0f7a4 27 = .ok (.iushr, 1) := by decide +kernel
theorem dJ6_bitCount_0f7a4_28 : decode cJ6_bitCount_0f7a4 28 = .ok (.iadd, 1) := by decide +kernel
theorem dJ6_bitCount_0f7a4_29 : decode cJ6_bitCount_0f7a4 29 = .ok (.ldc_w 267, 3) := by decide +kernel
theorem dJ6_bitCount_0f7a4_32 : decode cJ6_bitCount_0f7a4 32 = .ok (.iand, 1) := by decide +kernel
theorem dJ6_bitCount_0f7a4_33 : decode cJ6_bitCount_0f7a4 33 = .ok (.istore_n 0, 1) := by decide +kernel
theorem dJ6_bitCount_0f7a4_34 : decode cJ6_bitCount_0f7a4 34 = .ok (.iload_n 0, 1) := by decide +kernel
theorem dJ6_bitCount_0f7a4_35 : decode cJ6_bitCount_0f7a4 35 = .ok (.iload_n 0, 1) := by decide +kernel
theorem dJ6_bitCount_0f7a4_36 : decode cJ6_bitCount_0f7a4 36 = .ok (.bipush 8, 2) := by decide +kernel
theorem dJ6_bitCount_0f7a4_38 : decode cJ6_bitCount_0f7a4 38 = .ok (.iushr, 1) := by decide +kernel
theorem dJ6_bitCount_0f7a4_39 : decode cJ6_bitCount_0f7a4 39 = .ok (.iadd, 1) := by decide +kernel
theorem dJ6_bitCount_0f7a4_40 : decode cJ6_bitCount_0f7a4 40 = .ok (.istore_n 0, 1) := by decide +kernel
theorem dJ6_bitCount_0f7a4_41 : decode cJ6_bitCount_0f7a4 41 = .ok (.iload_n 0, 1) := by decide +kernel
theorem dJ6_bitCount_0f7a4_42 : decode cJ6_bitCount_0f7a4 42 = .ok (.iload_n 0, 1) := by decide +kernel
theorem dJ6_bitCount_0f7a4_43 : decode cJ6_bitCount_0f7a4 43 = .ok (.bipush 16, 2) := by decide +kernel
theorem dJ6_bitCount_0f7a4_45 : decode cJ6_bitCount_0f7a4 45 = .ok (.iushr, 1) := by decide +kernel
theorem dJ6_bitCount_0f7a4_46 : decode cJ6_bitCount_0f7a4 46 = .ok (.iadd, 1) := by decide +kernel
theorem dJ6_bitCount_0f7a4_47 : decode cJ6_bitCount_0f7a4 47 = .ok (.istore_n 0, 1) := by decide +kernel
theorem dJ6_bitCount_0f7a4_48 : decode cJ6_bitCount_0f7a4 48 = .ok (.iload_n 0, 1) := by decide +kernel
theorem dJ6_bitCount_0f7a4_49 : decode cJ6_bitCount_0f7a4 49 = .ok (.bipush 63, 2) := by decide +kernel
theorem dJ6_bitCount_0f7a4_51 : decode cJ6_bitCount_0f7a4 51 = .ok (.iand, 1) := by decide +kernel
theorem dJ6_bitCount_0f7a4_52 : decode cJ6_bitCount_0f7a4 52 = .ok (.ireturn, 1) := by decide +kernel
theorem zd_J6_bitCount_0f7a4 : yJ6_bitCount_0f7a4.cls ≠ "java/lang/invoke/MethodHandle" ∧ yJ6_bitCount_0f7a4.cls ≠ "java/lang/invoke/VarHandle" ∧ (parseMethodDescriptor yJ6_bitCount_0f7a4.desc).map (fun d => d.parameters.length) = some 1 := by decide +kernel
set_option maxHeartbeats 4000000 in
set_option maxRecDepth 100000 in
theorem zc_J6_bitCount_0f7a4 (l : Launch) (D : va_G) (cI cZ : ClassId) (x : Int32) : zI l yJ6_bitCount_0f7a4 cJ6_bitCount_0f7a4 1 .int 0 0 D cI cZ [.int x] [] (fun (r : Int32) (u : Unit) => r = zbc x) (fun (u : Unit) => []) := by
  refine zI_of (by decide) (Nat.le_of_ble_eq_true rfl) ?_
  intro pP eE sS mM aA bB mT cC A ls Z hP hD hS hl
  have hx := Z.1
  have hb := Z.2.1
  have hown := Z.2.2.2.2.2.1
  have hts := Z.2.2.2.2.1
  have Z : zAt pP sS mM aA mT cC D cI cZ A "java/lang/Integer" cJ6_bitCount_0f7a4 1 (some .int) := Z
  have hl : lv_has ls 1 [(0, .int x)] := hl
  obtain ⟨H, hH⟩ : ∃ H, H = sS.heap := ⟨_, rfl⟩
  have hP : va_P D vwCl [] H := by rw [hH]; exact hP
  have hS : va_S A sS.heap H [] := by rw [hH]; exact hS
  rw [← hH]
  clear hH
  obtain ⟨locs, hlo⟩ : ∃ q : List Loc, q = [] := ⟨_, rfl⟩
  rw [← hlo] at hS ⊢
  clear hlo
  refine lv_iload_n hx hb dJ6_bitCount_0f7a4_0 rfl (lv_at hl 0 rfl) ?_
  refine lv_iload_n hx hb dJ6_bitCount_0f7a4_1 rfl (lv_at hl 0 rfl) ?_
  refine lv_iconst (v := nI 1) hx hb dJ6_bitCount_0f7a4_2 (by decide) ?_
  refine lv_iushr (v := (x.toUInt32 >>> ((1 : Int32).toUInt32 &&& Int32.toUInt32 31)).toInt32) hx hb dJ6_bitCount_0f7a4_3 rfl ?_
  refine lv_ldcw (v := 1431655765) hx hb hown (hts _ zm601) dJ6_bitCount_0f7a4_4 ?_
  refine lv_iand hx hb dJ6_bitCount_0f7a4_7 ?_
  refine z_top (y := ((x.toUInt32 >>> ((1 : Int32).toUInt32 &&& Int32.toUInt32 31)).toInt32) &&& 1431655765) rfl ?_
  refine lv_isub hx hb dJ6_bitCount_0f7a4_8 ?_
  refine z_top (y := x - (((x.toUInt32 >>> ((1 : Int32).toUInt32 &&& Int32.toUInt32 31)).toInt32) &&& 1431655765)) rfl ?_
  refine z_top (y := zbc1 x) (rfl) ?_
  refine lv_istore_n (lv' := [(0, .int (zbc1 x))]) hx hb dJ6_bitCount_0f7a4_9 rfl hl (by decide) rfl (fun ls hl => ?_)
  refine lv_iload_n hx hb dJ6_bitCount_0f7a4_10 rfl (lv_at hl 0 rfl) ?_
  refine lv_ldcw (v := 858993459) hx hb hown (hts _ zm602) dJ6_bitCount_0f7a4_11 ?_
  refine lv_iand hx hb dJ6_bitCount_0f7a4_14 ?_
  refine z_top (y := (zbc1 x) &&& 858993459) rfl ?_
  refine lv_iload_n hx hb dJ6_bitCount_0f7a4_15 rfl (lv_at hl 0 rfl) ?_
  refine lv_iconst (v := nI 2) hx hb dJ6_bitCount_0f7a4_16 (by decide) ?_
  refine lv_iushr (v := ((zbc1 x).toUInt32 >>> ((2 : Int32).toUInt32 &&& Int32.toUInt32 31)).toInt32) hx hb dJ6_bitCount_0f7a4_17 rfl ?_
  refine lv_ldcw (v := 858993459) hx hb hown (hts _ zm602) dJ6_bitCount_0f7a4_18 ?_
  refine lv_iand hx hb dJ6_bitCount_0f7a4_21 ?_
  refine z_top (y := (((zbc1 x).toUInt32 >>> ((2 : Int32).toUInt32 &&& Int32.toUInt32 31)).toInt32) &&& 858993459) rfl ?_
  refine lv_iadd hx hb dJ6_bitCount_0f7a4_22 ?_
  refine z_top (y := ((zbc1 x) &&& 858993459) + ((((zbc1 x).toUInt32 >>> ((2 : Int32).toUInt32 &&& Int32.toUInt32 31)).toInt32) &&& 858993459)) rfl ?_
  refine z_top (y := zbc2 (zbc1 x)) (rfl) ?_
  refine lv_istore_n (lv' := [(0, .int (zbc2 (zbc1 x)))]) hx hb dJ6_bitCount_0f7a4_23 rfl hl (by decide) rfl (fun ls hl => ?_)
  refine lv_iload_n hx hb dJ6_bitCount_0f7a4_24 rfl (lv_at hl 0 rfl) ?_
  refine lv_iload_n hx hb dJ6_bitCount_0f7a4_25 rfl (lv_at hl 0 rfl) ?_
  refine lv_iconst (v := nI 4) hx hb dJ6_bitCount_0f7a4_26 (by decide) ?_
  refine lv_iushr (v := ((zbc2 (zbc1 x)).toUInt32 >>> ((4 : Int32).toUInt32 &&& Int32.toUInt32 31)).toInt32) hx hb dJ6_bitCount_0f7a4_27 rfl ?_
  refine lv_iadd hx hb dJ6_bitCount_0f7a4_28 ?_
  refine z_top (y := (zbc2 (zbc1 x)) + (((zbc2 (zbc1 x)).toUInt32 >>> ((4 : Int32).toUInt32 &&& Int32.toUInt32 31)).toInt32)) rfl ?_
  refine lv_ldcw (v := 252645135) hx hb hown (hts _ zm603) dJ6_bitCount_0f7a4_29 ?_
  refine lv_iand hx hb dJ6_bitCount_0f7a4_32 ?_
  refine z_top (y := ((zbc2 (zbc1 x)) + (((zbc2 (zbc1 x)).toUInt32 >>> ((4 : Int32).toUInt32 &&& Int32.toUInt32 31)).toInt32)) &&& 252645135) rfl ?_
  refine z_top (y := zbc3 (zbc2 (zbc1 x))) (rfl) ?_
  refine lv_istore_n (lv' := [(0, .int (zbc3 (zbc2 (zbc1 x))))]) hx hb dJ6_bitCount_0f7a4_33 rfl hl (by decide) rfl (fun ls hl => ?_)
  refine lv_iload_n hx hb dJ6_bitCount_0f7a4_34 rfl (lv_at hl 0 rfl) ?_
  refine lv_iload_n hx hb dJ6_bitCount_0f7a4_35 rfl (lv_at hl 0 rfl) ?_
  refine lv_bipush (v := nI 8) hx hb dJ6_bitCount_0f7a4_36 (by decide) ?_
  refine lv_iushr (v := ((zbc3 (zbc2 (zbc1 x))).toUInt32 >>> ((8 : Int32).toUInt32 &&& Int32.toUInt32 31)).toInt32) hx hb dJ6_bitCount_0f7a4_38 rfl ?_
  refine lv_iadd hx hb dJ6_bitCount_0f7a4_39 ?_
  refine z_top (y := (zbc3 (zbc2 (zbc1 x))) + (((zbc3 (zbc2 (zbc1 x))).toUInt32 >>> ((8 : Int32).toUInt32 &&& Int32.toUInt32 31)).toInt32)) rfl ?_
  refine z_top (y := zbc4 (zbc3 (zbc2 (zbc1 x)))) (rfl) ?_
  refine lv_istore_n (lv' := [(0, .int (zbc4 (zbc3 (zbc2 (zbc1 x)))))]) hx hb dJ6_bitCount_0f7a4_40 rfl hl (by decide) rfl (fun ls hl => ?_)
  refine lv_iload_n hx hb dJ6_bitCount_0f7a4_41 rfl (lv_at hl 0 rfl) ?_
  refine lv_iload_n hx hb dJ6_bitCount_0f7a4_42 rfl (lv_at hl 0 rfl) ?_
  refine lv_bipush (v := nI 16) hx hb dJ6_bitCount_0f7a4_43 (by decide) ?_
  refine lv_iushr (v := ((zbc4 (zbc3 (zbc2 (zbc1 x)))).toUInt32 >>> ((16 : Int32).toUInt32 &&& Int32.toUInt32 31)).toInt32) hx hb dJ6_bitCount_0f7a4_45 rfl ?_
  refine lv_iadd hx hb dJ6_bitCount_0f7a4_46 ?_
  refine z_top (y := (zbc4 (zbc3 (zbc2 (zbc1 x)))) + (((zbc4 (zbc3 (zbc2 (zbc1 x)))).toUInt32 >>> ((16 : Int32).toUInt32 &&& Int32.toUInt32 31)).toInt32)) rfl ?_
  refine z_top (y := zbc5 (zbc4 (zbc3 (zbc2 (zbc1 x))))) (rfl) ?_
  refine lv_istore_n (lv' := [(0, .int (zbc5 (zbc4 (zbc3 (zbc2 (zbc1 x))))))]) hx hb dJ6_bitCount_0f7a4_47 rfl hl (by decide) rfl (fun ls hl => ?_)
  refine lv_iload_n hx hb dJ6_bitCount_0f7a4_48 rfl (lv_at hl 0 rfl) ?_
  refine lv_bipush (v := nI 63) hx hb dJ6_bitCount_0f7a4_49 (by decide) ?_
  refine lv_iand hx hb dJ6_bitCount_0f7a4_51 ?_
  refine z_top (y := (zbc5 (zbc4 (zbc3 (zbc2 (zbc1 x))))) &&& 63) rfl ?_
  exact z_iret Z () (by (first | rfl | (simp []; done) | (simp_all []; done))) hP hS dJ6_bitCount_0f7a4_52

theorem dX3_sendAllAway_0 : decode cX3_sendAllAway 0 = .ok (.aload_n 0, 1) := by decide +kernel
theorem dX3_sendAllAway_1 : decode cX3_sendAllAway 1 = .ok (.iconst 0, 1) := by decide +kernel
theorem dX3_sendAllAway_2 : decode cX3_sendAllAway 2 = .ok (.putfield 31, 3) := by decide +kernel
theorem dX3_sendAllAway_5 : decode cX3_sendAllAway 5 = .ok (.aload_n 0, 1) := by decide +kernel
theorem dX3_sendAllAway_6 : decode cX3_sendAllAway 6 = .ok (.iconst 0, 1) := by decide +kernel
theorem dX3_sendAllAway_7 : decode cX3_sendAllAway 7 = .ok (.putfield 34, 3) := by decide +kernel
theorem dX3_sendAllAway_10 : decode cX3_sendAllAway 10 = .ok (.iconst 0, 1) := by decide +kernel
theorem dX3_sendAllAway_11 : decode cX3_sendAllAway 11 = .ok (.istore_n 1, 1) := by decide +kernel
theorem dX3_sendAllAway_12 : decode cX3_sendAllAway 12 = .ok (.iload_n 1, 1) := by decide +kernel
theorem dX3_sendAllAway_13 : decode cX3_sendAllAway 13 = .ok (.iconst 5, 1) := by decide +kernel
theorem dX3_sendAllAway_14 : decode cX3_sendAllAway 14 = .ok (.if_icmp .ge 16, 3) := by decide +kernel
theorem dX3_sendAllAway_17 : decode cX3_sendAllAway 17 = .ok (.aload_n 0, 1) := by decide +kernel
theorem dX3_sendAllAway_18 : decode cX3_sendAllAway 18 = .ok (.getfield 18, 3) := by decide +kernel
theorem dX3_sendAllAway_21 : decode cX3_sendAllAway 21 = .ok (.iload_n 1, 1) := by decide +kernel
theorem dX3_sendAllAway_22 : decode cX3_sendAllAway 22 = .ok (.iconst 0, 1) := by decide +kernel
theorem dX3_sendAllAway_23 : decode cX3_sendAllAway 23 = .ok (.iastore, 1) := by decide +kernel
theorem dX3_sendAllAway_24 : decode cX3_sendAllAway 24 = .ok (.iinc 1 1, 3) := by decide +kernel
theorem dX3_sendAllAway_27 : decode cX3_sendAllAway 27 = .ok (.goto (-15), 3) := by decide +kernel
theorem dX3_sendAllAway_30 : decode cX3_sendAllAway 30 = .ok (.return_, 1) := by decide +kernel
theorem zd_X3_sendAllAway : yX3_sendAllAway.cls ≠ "java/lang/invoke/MethodHandle" ∧ yX3_sendAllAway.cls ≠ "java/lang/invoke/VarHandle" ∧ (parseMethodDescriptor yX3_sendAllAway.desc).map (fun d => d.parameters.length) = some 0 := by decide +kernel
set_option maxHeartbeats 4000000 in
set_option maxRecDepth 100000 in
theorem zc_X3_sendAllAway (l : Launch) (D : va_G) (cI cZ : ClassId) (r : Nat) (ro : Nat) (rn : Nat) (rr : Nat) (rt : Int32) (fr : Int32) (pr : Int32) (n : Nat) (m : Nat) (rd : Nat → Int32) : zV l yX3_sendAllAway cX3_sendAllAway 2 0 0 D cI cZ [.ref r] [(r, .inr (3, [.ref ro, .ref rn, .ref rr, .int rt, .int fr, .int pr, .int (nI n), .int (nI m)])), (rr, .inl (cI, 5, .inl rd))] (fun (u : Unit) => True) (fun (u : Unit) => [(r, .inr (3, [.ref ro, .ref rn, .ref rr, .int rt, .int fr, .int pr, .int (nI 0), .int (nI 0)])), (rr, .inl (cI, 5, .inl (zcl rd 5)))]) := by
  refine zV_of (by decide) (Nat.le_of_ble_eq_true rfl) ?_
  intro pP eE sS mM aA bB mT cC A ls Z hP hD hS hl
  have hx := Z.1
  have hb := Z.2.1
  have hown := Z.2.2.2.2.2.1
  have hts := Z.2.2.2.2.1
  have Z : zAt pP sS mM aA mT cC D cI cZ A "SurpriseTax$Realm" cX3_sendAllAway 2 none := Z
  have hl : lv_has ls 2 [(0, .ref r)] := hl
  obtain ⟨H, hH⟩ : ∃ H, H = sS.heap := ⟨_, rfl⟩
  have hP : va_P D vwCl [(r, .inr (3, [.ref ro, .ref rn, .ref rr, .int rt, .int fr, .int pr, .int (nI n), .int (nI m)])), (rr, .inl (cI, 5, .inl rd))] H := by rw [hH]; exact hP
  have hS : va_S A sS.heap H [] := by rw [hH]; exact hS
  rw [← hH]
  clear hH
  obtain ⟨locs, hlo⟩ : ∃ q : List Loc, q = [] := ⟨_, rfl⟩
  rw [← hlo] at hS ⊢
  clear hlo
  refine lv_aload_n hx hb dX3_sendAllAway_0 rfl (lv_at hl 0 rfl) ?_
  refine lv_iconst (v := nI 0) hx hb dX3_sendAllAway_1 (by decide) ?_
  refine z_put (ci := 3) (v := .int (nI 0)) Z zin3 tyX3 tyX3_ok nmX3 hP hD hS 0 rfl rfl 6 (by decide) zm78 rfl rfl rfl rfl (Nat.le_of_ble_eq_true rfl) dX3_sendAllAway_2 (fun H locs hP hD hS => ?_)
  have hP : va_P D vwCl [(r, .inr (3, [.ref ro, .ref rn, .ref rr, .int rt, .int fr, .int pr, .int (nI 0), .int (nI m)])), (rr, .inl (cI, 5, .inl rd))] H := hP
  have hD : va_D A [(r, .inr (3, [.ref ro, .ref rn, .ref rr, .int rt, .int fr, .int pr, .int (nI 0), .int (nI m)])), (rr, .inl (cI, 5, .inl rd))] := hD
  refine lv_aload_n hx hb dX3_sendAllAway_5 rfl (lv_at hl 0 rfl) ?_
  refine lv_iconst (v := nI 0) hx hb dX3_sendAllAway_6 (by decide) ?_
  refine z_put (ci := 3) (v := .int (nI 0)) Z zin3 tyX3 tyX3_ok nmX3 hP hD hS 0 rfl rfl 7 (by decide) zm79 rfl rfl rfl rfl (Nat.le_of_ble_eq_true rfl) dX3_sendAllAway_7 (fun H locs hP hD hS => ?_)
  have hP : va_P D vwCl [(r, .inr (3, [.ref ro, .ref rn, .ref rr, .int rt, .int fr, .int pr, .int (nI 0), .int (nI 0)])), (rr, .inl (cI, 5, .inl rd))] H := hP
  have hD : va_D A [(r, .inr (3, [.ref ro, .ref rn, .ref rr, .int rt, .int fr, .int pr, .int (nI 0), .int (nI 0)])), (rr, .inl (cI, 5, .inl rd))] := hD
  refine lv_iconst (v := nI 0) hx hb dX3_sendAllAway_10 (by decide) ?_
  refine lv_istore_n (lv' := [(1, .int (nI 0)), (0, .ref r)]) hx hb dX3_sendAllAway_11 rfl hl (by decide) rfl (fun ls hl => ?_)
  have e_2 : rd = zcl rd 0 := by first | rfl | exact (zcl_0 rd).symm
  have hP : va_P D vwCl [(r, .inr (3, [.ref ro, .ref rn, .ref rr, .int rt, .int fr, .int pr, .int (nI 0), .int (nI 0)])), (rr, .inl (cI, 5, .inl (zcl rd 0)))] H := Eq.subst (motive := fun zz_ => va_P D vwCl [(r, .inr (3, [.ref ro, .ref rn, .ref rr, .int rt, .int fr, .int pr, .int (nI 0), .int (nI 0)])), (rr, .inl (cI, 5, .inl zz_))] H) e_2 hP
  have hD : va_D A [(r, .inr (3, [.ref ro, .ref rn, .ref rr, .int rt, .int fr, .int pr, .int (nI 0), .int (nI 0)])), (rr, .inl (cI, 5, .inl (zcl rd 0)))] := zD_of hD rfl
  have hl : lv_has ls 2 [(1, .int (nI 0)), (0, .ref r)] := lv_sub hl [0, 1] rfl
  refine z_loop (fun i H locs ls => va_P D vwCl [(r, .inr (3, [.ref ro, .ref rn, .ref rr, .int rt, .int fr, .int pr, .int (nI 0), .int (nI 0)])), (rr, .inl (cI, 5, .inl (zcl rd i)))] H ∧ va_D A [(r, .inr (3, [.ref ro, .ref rn, .ref rr, .int rt, .int fr, .int pr, .int (nI 0), .int (nI 0)])), (rr, .inl (cI, 5, .inl (zcl rd i)))] ∧ va_S A sS.heap H locs ∧ lv_has ls 2 [(1, .int (nI i)), (0, .ref r)]) (5) (lo := 0) (by omega) ⟨hP, hD, hS, hl⟩ (fun i hi_i ih_1 H locs ls hI => ?_)
  obtain ⟨hP, hD, hS, hl⟩ := hI
  have hP : va_P D vwCl [(r, .inr (3, [.ref ro, .ref rn, .ref rr, .int rt, .int fr, .int pr, .int (nI 0), .int (nI 0)])), (rr, .inl (cI, 5, .inl (zcl rd i)))] H := hP
  have hD : va_D A [(r, .inr (3, [.ref ro, .ref rn, .ref rr, .int rt, .int fr, .int pr, .int (nI 0), .int (nI 0)])), (rr, .inl (cI, 5, .inl (zcl rd i)))] := hD
  have hl : lv_has ls 2 [(1, .int (nI i)), (0, .ref r)] := hl
  refine lv_iload_n hx hb dX3_sendAllAway_12 rfl (lv_at hl 0 rfl) ?_
  refine lv_iconst (v := nI 5) hx hb dX3_sendAllAway_13 (by decide) ?_
  refine lv_icmp_ge (tgt := 30) hx hb dX3_sendAllAway_14 (by decide) (fun c_3 => ?_) (fun c_3 => ?_)
  · have c_3 := zle (i := 5) (j := i) (by decide) (by omega) c_3
    have hE_ : 5 = i := by omega
    subst hE_
    exact z_vret Z () trivial hP hS dX3_sendAllAway_30
  · have c_3 := znle (i := 5) (j := i) (by decide) (by omega) c_3
    refine lv_aload_n hx hb dX3_sendAllAway_17 rfl (lv_at hl 1 rfl) ?_
    refine z_get (ci := 3) (v := .ref rr) Z zin3 hP 0 rfl rfl 2 (by decide) zm74 rfl rfl dX3_sendAllAway_18 ?_
    refine lv_iload_n hx hb dX3_sendAllAway_21 rfl (lv_at hl 0 rfl) ?_
    refine lv_iconst (v := nI 0) hx hb dX3_sendAllAway_22 (by decide) ?_
    refine z_iast (n := 5) (f := zcl rd i) (j := i) (x := nI 0) Z hP hD hS 1 rfl (by omega) (by decide) dX3_sendAllAway_23 (fun H locs hP hD hS => ?_)
    have hP : va_P D vwCl [(r, .inr (3, [.ref ro, .ref rn, .ref rr, .int rt, .int fr, .int pr, .int (nI 0), .int (nI 0)])), (rr, .inl (cI, 5, .inl (upd (zcl rd i) i 0)))] H := hP
    have hD : va_D A [(r, .inr (3, [.ref ro, .ref rn, .ref rr, .int rt, .int fr, .int pr, .int (nI 0), .int (nI 0)])), (rr, .inl (cI, 5, .inl (upd (zcl rd i) i 0)))] := hD
    refine lv_iinc (v := nI (i + 1)) (lv' := [(1, .int (nI (i + 1))), (0, .ref r)]) hx hb dX3_sendAllAway_24 hl (k := 0) rfl (z_inc _ 1) (by decide) rfl (fun ls hl => ?_)
    refine lv_goto (tgt := 12) hx hb dX3_sendAllAway_27 (by decide) ?_
    have e_4 : upd (zcl rd i) i 0 = zcl rd (i + 1) := by first | rfl | exact zcl_s rd i
    have hP : va_P D vwCl [(r, .inr (3, [.ref ro, .ref rn, .ref rr, .int rt, .int fr, .int pr, .int (nI 0), .int (nI 0)])), (rr, .inl (cI, 5, .inl (zcl rd (i + 1))))] H := Eq.subst (motive := fun zz_ => va_P D vwCl [(r, .inr (3, [.ref ro, .ref rn, .ref rr, .int rt, .int fr, .int pr, .int (nI 0), .int (nI 0)])), (rr, .inl (cI, 5, .inl zz_))] H) e_4 hP
    have hD : va_D A [(r, .inr (3, [.ref ro, .ref rn, .ref rr, .int rt, .int fr, .int pr, .int (nI 0), .int (nI 0)])), (rr, .inl (cI, 5, .inl (zcl rd (i + 1))))] := zD_of hD rfl
    have hl : lv_has ls 2 [(1, .int (nI (i + 1))), (0, .ref r)] := lv_sub hl [0, 1] rfl
    exact ih_1 _ _ _ (by omega) ⟨hP, hD, hS, hl⟩

theorem dX3_has_0 : decode cX3_has 0 = .ok (.iload_n 1, 1) := by decide +kernel
theorem dX3_has_1 : decode cX3_has 1 = .ok (.ifCond .lt 15, 3) := by decide +kernel
theorem dX3_has_4 : decode cX3_has 4 = .ok (.iload_n 1, 1) := by decide +kernel
theorem dX3_has_5 : decode cX3_has 5 = .ok (.aload_n 0, 1) := by decide +kernel
theorem dX3_has_6 : decode cX3_has 6 = .ok (.getfield 31, 3) := by decide +kernel
theorem dX3_has_9 : decode cX3_has 9 = .ok (.if_icmp .ge 7, 3) := by decide +kernel
theorem dX3_has_12 : decode cX3_has 12 = .ok (.iconst 1, 1) := by decide +kernel
theorem dX3_has_13 : decode cX3_has 13 = .ok (.goto 4, 3) := by decide +kernel
theorem dX3_has_16 : decode cX3_has 16 = .ok (.iconst 0, 1) := by decide +kernel
theorem dX3_has_17 : decode cX3_has 17 = .ok (.ireturn, 1) := by decide +kernel
theorem zd_X3_has : yX3_has.cls ≠ "java/lang/invoke/MethodHandle" ∧ yX3_has.cls ≠ "java/lang/invoke/VarHandle" ∧ (parseMethodDescriptor yX3_has.desc).map (fun d => d.parameters.length) = some 1 := by decide +kernel
set_option maxHeartbeats 4000000 in
set_option maxRecDepth 100000 in
theorem zc_X3_has (l : Launch) (D : va_G) (cI cZ : ClassId) (r : Nat) (ro : Nat) (rn : Nat) (rr : Nat) (rt : Int32) (fr : Int32) (pr : Int32) (n : Nat) (m : Nat) (x : Int32) : zI l yX3_has cX3_has 2 .boolean 0 0 D cI cZ [.ref r, .int x] [(r, .inr (3, [.ref ro, .ref rn, .ref rr, .int rt, .int fr, .int pr, .int (nI n), .int (nI m)]))] (fun (r : Int32) (u : Unit) => r = if zhas n x then 1 else 0) (fun (u : Unit) => [(r, .inr (3, [.ref ro, .ref rn, .ref rr, .int rt, .int fr, .int pr, .int (nI n), .int (nI m)]))]) := by
  refine zI_of (by decide) (Nat.le_of_ble_eq_true rfl) ?_
  intro pP eE sS mM aA bB mT cC A ls Z hP hD hS hl
  have hx := Z.1
  have hb := Z.2.1
  have hown := Z.2.2.2.2.2.1
  have hts := Z.2.2.2.2.1
  have Z : zAt pP sS mM aA mT cC D cI cZ A "SurpriseTax$Realm" cX3_has 2 (some .boolean) := Z
  have hl : lv_has ls 2 [(0, .ref r), (1, .int x)] := hl
  obtain ⟨H, hH⟩ : ∃ H, H = sS.heap := ⟨_, rfl⟩
  have hP : va_P D vwCl [(r, .inr (3, [.ref ro, .ref rn, .ref rr, .int rt, .int fr, .int pr, .int (nI n), .int (nI m)]))] H := by rw [hH]; exact hP
  have hS : va_S A sS.heap H [] := by rw [hH]; exact hS
  rw [← hH]
  clear hH
  obtain ⟨locs, hlo⟩ : ∃ q : List Loc, q = [] := ⟨_, rfl⟩
  rw [← hlo] at hS ⊢
  clear hlo
  refine lv_iload_n hx hb dX3_has_0 rfl (lv_at hl 1 rfl) ?_
  refine lv_if_lt (tgt := 16) hx hb dX3_has_1 (by decide) (fun c_1 => ?_) (fun c_1 => ?_)
  · have c_1 : x < 0 := c_1
    refine lv_iconst (v := nI 0) hx hb dX3_has_16 (by decide) ?_
    exact z_zret Z () (by decide) (by (first | rfl | (simp [nI_one, nI_zero, c_1]; done) | (simp_all [nI_one, nI_zero]; done))) hP hS dX3_has_17
  · have c_1 : ¬ (x < 0) := c_1
    refine lv_iload_n hx hb dX3_has_4 rfl (lv_at hl 1 rfl) ?_
    refine lv_aload_n hx hb dX3_has_5 rfl (lv_at hl 0 rfl) ?_
    refine z_get (ci := 3) (v := .int (nI n)) Z zin3 hP 0 rfl rfl 6 (by decide) zm78 rfl rfl dX3_has_6 ?_
    refine lv_icmp_ge (tgt := 16) hx hb dX3_has_9 (by decide) (fun c_2 => ?_) (fun c_2 => ?_)
    · have c_2 : (nI n) ≤ x := c_2
      refine lv_iconst (v := nI 0) hx hb dX3_has_16 (by decide) ?_
      exact z_zret Z () (by decide) (by (first | rfl | (simp [nI_one, nI_zero, c_1, c_2]; done) | (simp_all [nI_one, nI_zero]; done))) hP hS dX3_has_17
    · have c_2 : ¬ ((nI n) ≤ x) := c_2
      refine lv_iconst (v := nI 1) hx hb dX3_has_12 (by decide) ?_
      refine lv_goto (tgt := 17) hx hb dX3_has_13 (by decide) ?_
      exact z_zret Z () (by decide) (by (first | rfl | (simp [nI_one, nI_zero, c_1, c_2]; done) | (simp_all [nI_one, nI_zero]; done))) hP hS dX3_has_17

theorem dX3_everybody_0 : decode cX3_everybody 0 = .ok (.iconst 1, 1) := by decide +kernel
theorem dX3_everybody_1 : decode cX3_everybody 1 = .ok (.aload_n 0, 1) := by decide +kernel
theorem dX3_everybody_2 : decode cX3_everybody 2 = .ok (.getfield 31, 3) := by decide +kernel
theorem dX3_everybody_5 : decode cX3_everybody 5 = .ok (.ishl, 1) := by decide +kernel
theorem dX3_everybody_6 : decode cX3_everybody 6 = .ok (.iconst 1, 1) := by decide +kernel
theorem dX3_everybody_7 : decode cX3_everybody 7 = .ok (.isub, 1) := by decide +kernel
theorem dX3_everybody_8 : decode cX3_everybody 8 = .ok (.ireturn, 1) := by decide +kernel
theorem zd_X3_everybody : yX3_everybody.cls ≠ "java/lang/invoke/MethodHandle" ∧ yX3_everybody.cls ≠ "java/lang/invoke/VarHandle" ∧ (parseMethodDescriptor yX3_everybody.desc).map (fun d => d.parameters.length) = some 0 := by decide +kernel
set_option maxHeartbeats 4000000 in
set_option maxRecDepth 100000 in
theorem zc_X3_everybody (l : Launch) (D : va_G) (cI cZ : ClassId) (r : Nat) (ro : Nat) (rn : Nat) (rr : Nat) (rt : Int32) (fr : Int32) (pr : Int32) (n : Nat) (m : Nat) : zI l yX3_everybody cX3_everybody 1 .int 0 0 D cI cZ [.ref r] [(r, .inr (3, [.ref ro, .ref rn, .ref rr, .int rt, .int fr, .int pr, .int (nI n), .int (nI m)]))] (fun (r : Int32) (u : Unit) => r = zev n) (fun (u : Unit) => [(r, .inr (3, [.ref ro, .ref rn, .ref rr, .int rt, .int fr, .int pr, .int (nI n), .int (nI m)]))]) := by
  refine zI_of (by decide) (Nat.le_of_ble_eq_true rfl) ?_
  intro pP eE sS mM aA bB mT cC A ls Z hP hD hS hl
  have hx := Z.1
  have hb := Z.2.1
  have hown := Z.2.2.2.2.2.1
  have hts := Z.2.2.2.2.1
  have Z : zAt pP sS mM aA mT cC D cI cZ A "SurpriseTax$Realm" cX3_everybody 1 (some .int) := Z
  have hl : lv_has ls 1 [(0, .ref r)] := hl
  obtain ⟨H, hH⟩ : ∃ H, H = sS.heap := ⟨_, rfl⟩
  have hP : va_P D vwCl [(r, .inr (3, [.ref ro, .ref rn, .ref rr, .int rt, .int fr, .int pr, .int (nI n), .int (nI m)]))] H := by rw [hH]; exact hP
  have hS : va_S A sS.heap H [] := by rw [hH]; exact hS
  rw [← hH]
  clear hH
  obtain ⟨locs, hlo⟩ : ∃ q : List Loc, q = [] := ⟨_, rfl⟩
  rw [← hlo] at hS ⊢
  clear hlo
  refine lv_iconst (v := nI 1) hx hb dX3_everybody_0 (by decide) ?_
  refine lv_aload_n hx hb dX3_everybody_1 rfl (lv_at hl 0 rfl) ?_
  refine z_get (ci := 3) (v := .int (nI n)) Z zin3 hP 0 rfl rfl 6 (by decide) zm78 rfl rfl dX3_everybody_2 ?_
  refine lv_ishl hx hb dX3_everybody_5 ?_
  refine z_top (y := (1 : Int32) <<< ((nI n) &&& 31)) rfl ?_
  refine lv_iconst (v := nI 1) hx hb dX3_everybody_6 (by decide) ?_
  refine lv_isub hx hb dX3_everybody_7 ?_
  refine z_top (y := ((1 : Int32) <<< ((nI n) &&& 31)) - 1) rfl ?_
  exact z_iret Z () (by (first | rfl | (simp []; done) | (simp_all []; done))) hP hS dX3_everybody_8

theorem dX3_oddsAsFigures_0 : decode cX3_oddsAsFigures 0 = .ok (.iconst 0, 1) := by decide +kernel
theorem dX3_oddsAsFigures_1 : decode cX3_oddsAsFigures 1 = .ok (.istore_n 1, 1) := by decide +kernel
theorem dX3_oddsAsFigures_2 : decode cX3_oddsAsFigures 2 = .ok (.iconst 0, 1) := by decide +kernel
theorem dX3_oddsAsFigures_3 : decode cX3_oddsAsFigures 3 = .ok (.istore_n 2, 1) := by decide +kernel
theorem dX3_oddsAsFigures_4 : decode cX3_oddsAsFigures 4 = .ok (.iload_n 2, 1) := by decide +kernel
theorem dX3_oddsAsFigures_5 : decode cX3_oddsAsFigures 5 = .ok (.iconst 4, 1) := by decide +kernel
theorem dX3_oddsAsFigures_6 : decode cX3_oddsAsFigures 6 = .ok (.if_icmp .ge 21, 3) := by decide +kernel
theorem dX3_oddsAsFigures_9 : decode cX3_oddsAsFigures 9 = .ok (.iload_n 1, 1) := by decide +kernel
theorem dX3_oddsAsFigures_10 : decode cX3_oddsAsFigures 10 = .ok (.bipush 10, 2) := by decide +kernel
theorem dX3_oddsAsFigures_12 : decode cX3_oddsAsFigures 12 = .ok (.imul, 1) := by decide +kernel
theorem dX3_oddsAsFigures_13 : decode cX3_oddsAsFigures 13 = .ok (.aload_n 0, 1) := by decide +kernel
theorem dX3_oddsAsFigures_14 : decode cX3_oddsAsFigures 14 = .ok (.getfield 9, 3) := by decide +kernel
theorem dX3_oddsAsFigures_17 : decode cX3_oddsAsFigures 17 = .ok (.iload_n 2, 1) := by decide +kernel
theorem dX3_oddsAsFigures_18 : decode cX3_oddsAsFigures 18 = .ok (.iaload, 1) := by decide +kernel
theorem dX3_oddsAsFigures_19 : decode cX3_oddsAsFigures 19 = .ok (.iadd, 1) := by decide +kernel
theorem dX3_oddsAsFigures_20 : decode cX3_oddsAsFigures 20 = .ok (.istore_n 1, 1) := by decide +kernel
theorem dX3_oddsAsFigures_21 : decode cX3_oddsAsFigures 21 = .ok (.iinc 2 1, 3) := by decide +kernel
theorem dX3_oddsAsFigures_24 : decode cX3_oddsAsFigures 24 = .ok (.goto (-20), 3) := by decide +kernel
theorem dX3_oddsAsFigures_27 : decode cX3_oddsAsFigures 27 = .ok (.iload_n 1, 1) := by decide +kernel
theorem dX3_oddsAsFigures_28 : decode cX3_oddsAsFigures 28 = .ok (.ireturn, 1) := by decide +kernel
theorem zd_X3_oddsAsFigures : yX3_oddsAsFigures.cls ≠ "java/lang/invoke/MethodHandle" ∧ yX3_oddsAsFigures.cls ≠ "java/lang/invoke/VarHandle" ∧ (parseMethodDescriptor yX3_oddsAsFigures.desc).map (fun d => d.parameters.length) = some 0 := by decide +kernel
set_option maxHeartbeats 4000000 in
set_option maxRecDepth 100000 in
theorem zc_X3_oddsAsFigures (l : Launch) (D : va_G) (cI cZ : ClassId) (r : Nat) (ro : Nat) (rn : Nat) (rr : Nat) (rt : Int32) (fr : Int32) (pr : Int32) (n : Nat) (m : Nat) (od : Nat → Int32) : zI l yX3_oddsAsFigures cX3_oddsAsFigures 3 .int 0 0 D cI cZ [.ref r] [(r, .inr (3, [.ref ro, .ref rn, .ref rr, .int rt, .int fr, .int pr, .int (nI n), .int (nI m)])), (ro, .inl (cI, 4, .inl od))] (fun (r : Int32) (u : Unit) => r = zoa od 4) (fun (u : Unit) => [(r, .inr (3, [.ref ro, .ref rn, .ref rr, .int rt, .int fr, .int pr, .int (nI n), .int (nI m)])), (ro, .inl (cI, 4, .inl od))]) := by
  refine zI_of (by decide) (Nat.le_of_ble_eq_true rfl) ?_
  intro pP eE sS mM aA bB mT cC A ls Z hP hD hS hl
  have hx := Z.1
  have hb := Z.2.1
  have hown := Z.2.2.2.2.2.1
  have hts := Z.2.2.2.2.1
  have Z : zAt pP sS mM aA mT cC D cI cZ A "SurpriseTax$Realm" cX3_oddsAsFigures 3 (some .int) := Z
  have hl : lv_has ls 3 [(0, .ref r)] := hl
  obtain ⟨H, hH⟩ : ∃ H, H = sS.heap := ⟨_, rfl⟩
  have hP : va_P D vwCl [(r, .inr (3, [.ref ro, .ref rn, .ref rr, .int rt, .int fr, .int pr, .int (nI n), .int (nI m)])), (ro, .inl (cI, 4, .inl od))] H := by rw [hH]; exact hP
  have hS : va_S A sS.heap H [] := by rw [hH]; exact hS
  rw [← hH]
  clear hH
  obtain ⟨locs, hlo⟩ : ∃ q : List Loc, q = [] := ⟨_, rfl⟩
  rw [← hlo] at hS ⊢
  clear hlo
  refine lv_iconst (v := nI 0) hx hb dX3_oddsAsFigures_0 (by decide) ?_
  refine lv_istore_n (lv' := [(1, .int (nI 0)), (0, .ref r)]) hx hb dX3_oddsAsFigures_1 rfl hl (by decide) rfl (fun ls hl => ?_)
  refine lv_iconst (v := nI 0) hx hb dX3_oddsAsFigures_2 (by decide) ?_
  refine lv_istore_n (lv' := [(2, .int (nI 0)), (1, .int (nI 0)), (0, .ref r)]) hx hb dX3_oddsAsFigures_3 rfl hl (by decide) rfl (fun ls hl => ?_)
  have hl : lv_has ls 3 [(2, .int (nI 0)), (1, .int (nI 0)), (0, .ref r)] := lv_sub hl [0, 1, 2] rfl
  have e_2 : nI 0 = zoa od 0 := by (first | rfl | (simp []; done) | (simp_all []; done))
  have hl : lv_has ls 3 [(2, .int (nI 0)), (1, .int (zoa od 0)), (0, .ref r)] := Eq.subst (motive := fun zz_ => lv_has ls 3 [(2, .int (nI 0)), (1, .int zz_), (0, .ref r)]) e_2 hl
  refine z_loop (fun i H locs ls => va_P D vwCl [(r, .inr (3, [.ref ro, .ref rn, .ref rr, .int rt, .int fr, .int pr, .int (nI n), .int (nI m)])), (ro, .inl (cI, 4, .inl od))] H ∧ va_D A [(r, .inr (3, [.ref ro, .ref rn, .ref rr, .int rt, .int fr, .int pr, .int (nI n), .int (nI m)])), (ro, .inl (cI, 4, .inl od))] ∧ va_S A sS.heap H locs ∧ lv_has ls 3 [(2, .int (nI i)), (1, .int (zoa od i)), (0, .ref r)]) (4) (lo := 0) (by omega) ⟨hP, hD, hS, hl⟩ (fun i hi_i ih_1 H locs ls hI => ?_)
  obtain ⟨hP, hD, hS, hl⟩ := hI
  have hP : va_P D vwCl [(r, .inr (3, [.ref ro, .ref rn, .ref rr, .int rt, .int fr, .int pr, .int (nI n), .int (nI m)])), (ro, .inl (cI, 4, .inl od))] H := hP
  have hD : va_D A [(r, .inr (3, [.ref ro, .ref rn, .ref rr, .int rt, .int fr, .int pr, .int (nI n), .int (nI m)])), (ro, .inl (cI, 4, .inl od))] := hD
  have hl : lv_has ls 3 [(2, .int (nI i)), (1, .int (zoa od i)), (0, .ref r)] := hl
  refine lv_iload_n hx hb dX3_oddsAsFigures_4 rfl (lv_at hl 0 rfl) ?_
  refine lv_iconst (v := nI 4) hx hb dX3_oddsAsFigures_5 (by decide) ?_
  refine lv_icmp_ge (tgt := 27) hx hb dX3_oddsAsFigures_6 (by decide) (fun c_3 => ?_) (fun c_3 => ?_)
  · have c_3 := zle (i := 4) (j := i) (by decide) (by omega) c_3
    have hE_ : 4 = i := by omega
    subst hE_
    refine lv_iload_n hx hb dX3_oddsAsFigures_27 rfl (lv_at hl 1 rfl) ?_
    exact z_iret Z () rfl hP hS dX3_oddsAsFigures_28
  · have c_3 := znle (i := 4) (j := i) (by decide) (by omega) c_3
    refine lv_iload_n hx hb dX3_oddsAsFigures_9 rfl (lv_at hl 1 rfl) ?_
    refine lv_bipush (v := nI 10) hx hb dX3_oddsAsFigures_10 (by decide) ?_
    refine lv_imul hx hb dX3_oddsAsFigures_12 ?_
    refine z_top (y := (zoa od i) * 10) rfl ?_
    refine lv_aload_n hx hb dX3_oddsAsFigures_13 rfl (lv_at hl 2 rfl) ?_
    refine z_get (ci := 3) (v := .ref ro) Z zin3 hP 0 rfl rfl 0 (by decide) zm72 rfl rfl dX3_oddsAsFigures_14 ?_
    refine lv_iload_n hx hb dX3_oddsAsFigures_17 rfl (lv_at hl 0 rfl) ?_
    refine z_iald (n := 4) (f := od) (j := i) Z hP 1 rfl (by omega) (by decide) dX3_oddsAsFigures_18 ?_
    refine lv_iadd hx hb dX3_oddsAsFigures_19 ?_
    refine z_top (y := ((zoa od i) * 10) + (od i)) rfl ?_
    refine lv_istore_n (lv' := [(1, .int (((zoa od i) * 10) + (od i))), (2, .int (nI i)), (0, .ref r)]) hx hb dX3_oddsAsFigures_20 rfl hl (by decide) rfl (fun ls hl => ?_)
    refine lv_iinc (v := nI (i + 1)) (lv' := [(2, .int (nI (i + 1))), (1, .int (((zoa od i) * 10) + (od i))), (0, .ref r)]) hx hb dX3_oddsAsFigures_21 hl (k := 1) rfl (z_inc _ 1) (by decide) rfl (fun ls hl => ?_)
    refine lv_goto (tgt := 4) hx hb dX3_oddsAsFigures_24 (by decide) ?_
    have hl : lv_has ls 3 [(2, .int (nI (i + 1))), (1, .int (((zoa od i) * 10) + (od i))), (0, .ref r)] := lv_sub hl [0, 1, 2] rfl
    have e_4 : ((zoa od i) * 10) + (od i) = zoa od (i + 1) := by (first | rfl | (simp [c_3]; done) | (simp_all []; done))
    have hl : lv_has ls 3 [(2, .int (nI (i + 1))), (1, .int (zoa od (i + 1))), (0, .ref r)] := Eq.subst (motive := fun zz_ => lv_has ls 3 [(2, .int (nI (i + 1))), (1, .int zz_), (0, .ref r)]) e_4 hl
    exact ih_1 _ _ _ (by omega) ⟨hP, hD, hS, hl⟩

theorem dX3_hasRoad_0 : decode cX3_hasRoad 0 = .ok (.aload_n 0, 1) := by decide +kernel
theorem dX3_hasRoad_1 : decode cX3_hasRoad 1 = .ok (.getfield 18, 3) := by decide +kernel
theorem dX3_hasRoad_4 : decode cX3_hasRoad 4 = .ok (.iload_n 1, 1) := by decide +kernel
theorem dX3_hasRoad_5 : decode cX3_hasRoad 5 = .ok (.iaload, 1) := by decide +kernel
theorem dX3_hasRoad_6 : decode cX3_hasRoad 6 = .ok (.iload_n 2, 1) := by decide +kernel
theorem dX3_hasRoad_7 : decode cX3_hasRoad 7 = .ok (.ishr, 1) := by decide +kernel
theorem dX3_hasRoad_8 : decode cX3_hasRoad 8 = .ok (.iconst 1, 1) := by decide +kernel
theorem dX3_hasRoad_9 : decode cX3_hasRoad 9 = .ok (.iand, 1) := by decide +kernel
theorem dX3_hasRoad_10 : decode cX3_hasRoad 10 = .ok (.ifCond .eq 7, 3) := by decide +kernel
theorem dX3_hasRoad_13 : decode cX3_hasRoad 13 = .ok (.iconst 1, 1) := by decide +kernel
theorem dX3_hasRoad_14 : decode cX3_hasRoad 14 = .ok (.goto 4, 3) := by decide +kernel
theorem dX3_hasRoad_17 : decode cX3_hasRoad 17 = .ok (.iconst 0, 1) := by decide +kernel
theorem dX3_hasRoad_18 : decode cX3_hasRoad 18 = .ok (.ireturn, 1) := by decide +kernel
theorem zd_X3_hasRoad : yX3_hasRoad.cls ≠ "java/lang/invoke/MethodHandle" ∧ yX3_hasRoad.cls ≠ "java/lang/invoke/VarHandle" ∧ (parseMethodDescriptor yX3_hasRoad.desc).map (fun d => d.parameters.length) = some 2 := by decide +kernel
set_option maxHeartbeats 4000000 in
set_option maxRecDepth 100000 in
theorem zc_X3_hasRoad (l : Launch) (D : va_G) (cI cZ : ClassId) (r : Nat) (ro : Nat) (rn : Nat) (rr : Nat) (rt : Int32) (fr : Int32) (pr : Int32) (n : Nat) (m : Nat) (rd : Nat → Int32) (p : Nat) (q : Nat) (hp : p < 5) : zI l yX3_hasRoad cX3_hasRoad 3 .boolean 0 0 D cI cZ [.ref r, .int (nI p), .int (nI q)] [(r, .inr (3, [.ref ro, .ref rn, .ref rr, .int rt, .int fr, .int pr, .int (nI n), .int (nI m)])), (rr, .inl (cI, 5, .inl rd))] (fun (r : Int32) (u : Unit) => r = if zin (rd p) q then 1 else 0) (fun (u : Unit) => [(r, .inr (3, [.ref ro, .ref rn, .ref rr, .int rt, .int fr, .int pr, .int (nI n), .int (nI m)])), (rr, .inl (cI, 5, .inl rd))]) := by
  refine zI_of (by decide) (Nat.le_of_ble_eq_true rfl) ?_
  intro pP eE sS mM aA bB mT cC A ls Z hP hD hS hl
  have hx := Z.1
  have hb := Z.2.1
  have hown := Z.2.2.2.2.2.1
  have hts := Z.2.2.2.2.1
  have Z : zAt pP sS mM aA mT cC D cI cZ A "SurpriseTax$Realm" cX3_hasRoad 3 (some .boolean) := Z
  have hl : lv_has ls 3 [(0, .ref r), (1, .int (nI p)), (2, .int (nI q))] := hl
  obtain ⟨H, hH⟩ : ∃ H, H = sS.heap := ⟨_, rfl⟩
  have hP : va_P D vwCl [(r, .inr (3, [.ref ro, .ref rn, .ref rr, .int rt, .int fr, .int pr, .int (nI n), .int (nI m)])), (rr, .inl (cI, 5, .inl rd))] H := by rw [hH]; exact hP
  have hS : va_S A sS.heap H [] := by rw [hH]; exact hS
  rw [← hH]
  clear hH
  obtain ⟨locs, hlo⟩ : ∃ q : List Loc, q = [] := ⟨_, rfl⟩
  rw [← hlo] at hS ⊢
  clear hlo
  refine lv_aload_n hx hb dX3_hasRoad_0 rfl (lv_at hl 0 rfl) ?_
  refine z_get (ci := 3) (v := .ref rr) Z zin3 hP 0 rfl rfl 2 (by decide) zm74 rfl rfl dX3_hasRoad_1 ?_
  refine lv_iload_n hx hb dX3_hasRoad_4 rfl (lv_at hl 1 rfl) ?_
  refine z_iald (n := 5) (f := rd) (j := p) Z hP 1 rfl (by omega) (by decide) dX3_hasRoad_5 ?_
  refine lv_iload_n hx hb dX3_hasRoad_6 rfl (lv_at hl 2 rfl) ?_
  refine lv_ishr hx hb dX3_hasRoad_7 ?_
  refine z_top (y := (rd p) >>> ((nI q) &&& 31)) rfl ?_
  refine lv_iconst (v := nI 1) hx hb dX3_hasRoad_8 (by decide) ?_
  refine lv_iand hx hb dX3_hasRoad_9 ?_
  refine z_top (y := ((rd p) >>> ((nI q) &&& 31)) &&& 1) rfl ?_
  refine lv_if_eq (tgt := 17) hx hb dX3_hasRoad_10 (by decide) (fun c_1 => ?_) (fun c_1 => ?_)
  · have c_1 : (((rd p) >>> ((nI q) &&& 31)) &&& 1) = 0 := c_1
    refine lv_iconst (v := nI 0) hx hb dX3_hasRoad_17 (by decide) ?_
    exact z_zret Z () (by decide) (by (first | rfl | (simp [nI_one, nI_zero, c_1]; done) | (simp_all [nI_one, nI_zero]; done))) hP hS dX3_hasRoad_18
  · have c_1 : ¬ ((((rd p) >>> ((nI q) &&& 31)) &&& 1) = 0) := c_1
    refine lv_iconst (v := nI 1) hx hb dX3_hasRoad_13 (by decide) ?_
    refine lv_goto (tgt := 18) hx hb dX3_hasRoad_14 (by decide) ?_
    exact z_zret Z () (by decide) (by (first | rfl | (simp [nI_one, nI_zero, c_1]; done) | (simp_all [nI_one, nI_zero]; done))) hP hS dX3_hasRoad_18

theorem dX3_roadEnds_0 : decode cX3_roadEnds 0 = .ok (.aload_n 0, 1) := by decide +kernel
theorem dX3_roadEnds_1 : decode cX3_roadEnds 1 = .ok (.iload_n 1, 1) := by decide +kernel
theorem dX3_roadEnds_2 : decode cX3_roadEnds 2 = .ok (.invokevirtual 41, 3) := by decide +kernel
theorem dX3_roadEnds_5 : decode cX3_roadEnds 5 = .ok (.ifCond .eq 25, 3) := by decide +kernel
theorem dX3_roadEnds_8 : decode cX3_roadEnds 8 = .ok (.aload_n 0, 1) := by decide +kernel
theorem dX3_roadEnds_9 : decode cX3_roadEnds 9 = .ok (.invokevirtual 45, 3) := by decide +kernel
theorem dX3_roadEnds_12 : decode cX3_roadEnds 12 = .ok (.aload_n 0, 1) := by decide +kernel
theorem dX3_roadEnds_13 : decode cX3_roadEnds 13 = .ok (.getfield 18, 3) := by decide +kernel
theorem dX3_roadEnds_16 : decode cX3_roadEnds 16 = .ok (.iload_n 1, 1) := by decide +kernel
theorem dX3_roadEnds_17 : decode cX3_roadEnds 17 = .ok (.iaload, 1) := by decide +kernel
theorem dX3_roadEnds_18 : decode cX3_roadEnds 18 = .ok (.iconst (-1), 1) := by decide +kernel
theorem dX3_roadEnds_19 : decode cX3_roadEnds 19 = .ok (.ixor, 1) := by decide +kernel
theorem dX3_roadEnds_20 : decode cX3_roadEnds 20 = .ok (.iand, 1) := by decide +kernel
theorem dX3_roadEnds_21 : decode cX3_roadEnds 21 = .ok (.iconst 1, 1) := by decide +kernel
theorem dX3_roadEnds_22 : decode cX3_roadEnds 22 = .ok (.iload_n 1, 1) := by decide +kernel
theorem dX3_roadEnds_23 : decode cX3_roadEnds 23 = .ok (.ishl, 1) := by decide +kernel
theorem dX3_roadEnds_24 : decode cX3_roadEnds 24 = .ok (.iconst (-1), 1) := by decide +kernel
theorem dX3_roadEnds_25 : decode cX3_roadEnds 25 = .ok (.ixor, 1) := by decide +kernel
theorem dX3_roadEnds_26 : decode cX3_roadEnds 26 = .ok (.iand, 1) := by decide +kernel
theorem dX3_roadEnds_27 : decode cX3_roadEnds 27 = .ok (.goto 4, 3) := by decide +kernel
theorem dX3_roadEnds_30 : decode cX3_roadEnds 30 = .ok (.iconst 0, 1) := by decide +kernel
theorem dX3_roadEnds_31 : decode cX3_roadEnds 31 = .ok (.ireturn, 1) := by decide +kernel
theorem zd_X3_roadEnds : yX3_roadEnds.cls ≠ "java/lang/invoke/MethodHandle" ∧ yX3_roadEnds.cls ≠ "java/lang/invoke/VarHandle" ∧ (parseMethodDescriptor yX3_roadEnds.desc).map (fun d => d.parameters.length) = some 1 := by decide +kernel
set_option maxHeartbeats 4000000 in
set_option maxRecDepth 100000 in
theorem zc_X3_roadEnds (l : Launch) (D : va_G) (cI cZ : ClassId) (r : Nat) (ro : Nat) (rn : Nat) (rr : Nat) (rt : Int32) (fr : Int32) (pr : Int32) (n : Nat) (m : Nat) (rd : Nat → Int32) (x : Int32) (hn : n ≤ 5) : zI l yX3_roadEnds cX3_roadEnds 2 .int 1 21 D cI cZ [.ref r, .int x] [(r, .inr (3, [.ref ro, .ref rn, .ref rr, .int rt, .int fr, .int pr, .int (nI n), .int (nI m)])), (rr, .inl (cI, 5, .inl rd))] (fun (r : Int32) (u : Unit) => r = zre n rd x) (fun (u : Unit) => [(r, .inr (3, [.ref ro, .ref rn, .ref rr, .int rt, .int fr, .int pr, .int (nI n), .int (nI m)])), (rr, .inl (cI, 5, .inl rd))]) := by
  refine zI_of (by decide) (Nat.le_of_ble_eq_true rfl) ?_
  intro pP eE sS mM aA bB mT cC A ls Z hP hD hS hl
  have hx := Z.1
  have hb := Z.2.1
  have hown := Z.2.2.2.2.2.1
  have hts := Z.2.2.2.2.1
  have Z : zAt pP sS mM aA mT cC D cI cZ A "SurpriseTax$Realm" cX3_roadEnds 2 (some .int) := Z
  have hl : lv_has ls 2 [(0, .ref r), (1, .int x)] := hl
  obtain ⟨H, hH⟩ : ∃ H, H = sS.heap := ⟨_, rfl⟩
  have hP : va_P D vwCl [(r, .inr (3, [.ref ro, .ref rn, .ref rr, .int rt, .int fr, .int pr, .int (nI n), .int (nI m)])), (rr, .inl (cI, 5, .inl rd))] H := by rw [hH]; exact hP
  have hS : va_S A sS.heap H [] := by rw [hH]; exact hS
  rw [← hH]
  clear hH
  obtain ⟨locs, hlo⟩ : ∃ q : List Loc, q = [] := ⟨_, rfl⟩
  rw [← hlo] at hS ⊢
  clear hlo
  refine lv_aload_n hx hb dX3_roadEnds_0 rfl (lv_at hl 0 rfl) ?_
  refine lv_iload_n hx hb dX3_roadEnds_1 rfl (lv_at hl 1 rfl) ?_
  refine z_callVi (As := [.int x]) (rest := []) (ci := 3) (k0 := 0) Z hP hD hS hl.1 (zc_X3_has l D cI cZ r ro rn rr rt fr pr n m x ) zm269 zm270 zm271 zm32 zm272 ⟨rfl, zd_X3_has⟩ ⟨Nat.le_of_ble_eq_true rfl, Nat.le_of_ble_eq_true rfl⟩ ⟨Nat.zero_le _, Nat.zero_le _⟩ [0] rfl (by decide) rfl rfl rfl (fun _ => rfl) rfl (Nat.le_of_ble_eq_true rfl) rfl dX3_roadEnds_2 (fun r_1 u H locs h_2 hP hD hS => ?_)
  have hP : va_P D vwCl [(r, .inr (3, [.ref ro, .ref rn, .ref rr, .int rt, .int fr, .int pr, .int (nI n), .int (nI m)])), (rr, .inl (cI, 5, .inl rd))] H := hP
  have hD : va_D A [(r, .inr (3, [.ref ro, .ref rn, .ref rr, .int rt, .int fr, .int pr, .int (nI n), .int (nI m)])), (rr, .inl (cI, 5, .inl rd))] := hD
  have h_2 : r_1 = if zhas n x then 1 else 0 := h_2
  subst h_2
  refine lv_if_eq (tgt := 30) hx hb dX3_roadEnds_5 (by decide) (fun c_3 => ?_) (fun c_3 => ?_)
  · have c_3 := zb0 c_3
    refine lv_iconst (v := nI 0) hx hb dX3_roadEnds_30 (by decide) ?_
    refine z_top (y := zre n rd x) ((if_neg (by assumption)).symm) ?_
    exact z_iret Z () rfl hP hS dX3_roadEnds_31
  · have c_3 := zb1 c_3
    obtain ⟨p, hp, rfl⟩ := zhas_of (by omega) c_3
    refine lv_aload_n hx hb dX3_roadEnds_8 rfl (lv_at hl 0 rfl) ?_
    refine z_callVi (As := []) (rest := []) (ci := 3) (k0 := 0) Z hP hD hS hl.1 (zc_X3_everybody l D cI cZ r ro rn rr rt fr pr n m ) zm273 zm274 zm275 zm32 zm276 ⟨rfl, zd_X3_everybody⟩ ⟨Nat.le_of_ble_eq_true rfl, Nat.le_of_ble_eq_true rfl⟩ ⟨Nat.zero_le _, Nat.zero_le _⟩ [0] rfl (by decide) rfl rfl rfl (fun _ => rfl) rfl (Nat.le_of_ble_eq_true rfl) rfl dX3_roadEnds_9 (fun r_4 u H locs h_5 hP hD hS => ?_)
    have hP : va_P D vwCl [(r, .inr (3, [.ref ro, .ref rn, .ref rr, .int rt, .int fr, .int pr, .int (nI n), .int (nI m)])), (rr, .inl (cI, 5, .inl rd))] H := hP
    have hD : va_D A [(r, .inr (3, [.ref ro, .ref rn, .ref rr, .int rt, .int fr, .int pr, .int (nI n), .int (nI m)])), (rr, .inl (cI, 5, .inl rd))] := hD
    have h_5 : r_4 = zev n := h_5
    subst h_5
    refine lv_aload_n hx hb dX3_roadEnds_12 rfl (lv_at hl 0 rfl) ?_
    refine z_get (ci := 3) (v := .ref rr) Z zin3 hP 0 rfl rfl 2 (by decide) zm74 rfl rfl dX3_roadEnds_13 ?_
    refine lv_iload_n hx hb dX3_roadEnds_16 rfl (lv_at hl 1 rfl) ?_
    refine z_iald (n := 5) (f := rd) (j := p) Z hP 1 rfl (by omega) (by decide) dX3_roadEnds_17 ?_
    refine lv_iconst (v := -1) hx hb dX3_roadEnds_18 (by decide) ?_
    refine lv_ixor hx hb dX3_roadEnds_19 ?_
    refine z_top (y := (rd p) ^^^ (-1)) rfl ?_
    refine lv_iand hx hb dX3_roadEnds_20 ?_
    refine z_top (y := (zev n) &&& ((rd p) ^^^ (-1))) rfl ?_
    refine lv_iconst (v := nI 1) hx hb dX3_roadEnds_21 (by decide) ?_
    refine lv_iload_n hx hb dX3_roadEnds_22 rfl (lv_at hl 1 rfl) ?_
    refine lv_ishl hx hb dX3_roadEnds_23 ?_
    refine z_top (y := (1 : Int32) <<< ((nI p) &&& 31)) rfl ?_
    refine z_top (y := zbit p) (rfl) ?_
    refine lv_iconst (v := -1) hx hb dX3_roadEnds_24 (by decide) ?_
    refine lv_ixor hx hb dX3_roadEnds_25 ?_
    refine z_top (y := (zbit p) ^^^ (-1)) rfl ?_
    refine lv_iand hx hb dX3_roadEnds_26 ?_
    refine z_top (y := ((zev n) &&& ((rd p) ^^^ (-1))) &&& ((zbit p) ^^^ (-1))) rfl ?_
    refine z_top (y := zre n rd (nI p)) ((zre_nat hp (by omega)).symm) ?_
    refine lv_goto (tgt := 31) hx hb dX3_roadEnds_27 (by decide) ?_
    exact z_iret Z () (by (first | rfl | (simp [c_3]; done) | (simp_all []; done))) hP hS dX3_roadEnds_31

theorem dX3_roadStarts_0 : decode cX3_roadStarts 0 = .ok (.aload_n 0, 1) := by decide +kernel
theorem dX3_roadStarts_1 : decode cX3_roadStarts 1 = .ok (.getfield 34, 3) := by decide +kernel
theorem dX3_roadStarts_4 : decode cX3_roadStarts 4 = .ok (.bipush 6, 2) := by decide +kernel
theorem dX3_roadStarts_6 : decode cX3_roadStarts 6 = .ok (.if_icmp .lt 5, 3) := by decide +kernel
theorem dX3_roadStarts_9 : decode cX3_roadStarts 9 = .ok (.iconst 0, 1) := by decide +kernel
theorem dX3_roadStarts_10 : decode cX3_roadStarts 10 = .ok (.ireturn, 1) := by decide +kernel
theorem dX3_roadStarts_11 : decode cX3_roadStarts 11 = .ok (.iconst 0, 1) := by decide +kernel
theorem dX3_roadStarts_12 : decode cX3_roadStarts 12 = .ok (.istore_n 1, 1) := by decide +kernel
theorem dX3_roadStarts_13 : decode cX3_roadStarts 13 = .ok (.iconst 0, 1) := by decide +kernel
theorem dX3_roadStarts_14 : decode cX3_roadStarts 14 = .ok (.istore_n 2, 1) := by decide +kernel
theorem dX3_roadStarts_15 : decode cX3_roadStarts 15 = .ok (.iload_n 2, 1) := by decide +kernel
theorem dX3_roadStarts_16 : decode cX3_roadStarts 16 = .ok (.aload_n 0, 1) := by decide +kernel
theorem dX3_roadStarts_17 : decode cX3_roadStarts 17 = .ok (.getfield 31, 3) := by decide +kernel
theorem dX3_roadStarts_20 : decode cX3_roadStarts 20 = .ok (.if_icmp .ge 23, 3) := by decide +kernel
theorem dX3_roadStarts_23 : decode cX3_roadStarts 23 = .ok (.aload_n 0, 1) := by decide +kernel
theorem dX3_roadStarts_24 : decode cX3_roadStarts 24 = .ok (.iload_n 2, 1) := by decide +kernel
theorem dX3_roadStarts_25 : decode cX3_roadStarts 25 = .ok (.invokevirtual 37, 3) := by decide +kernel
theorem dX3_roadStarts_28 : decode cX3_roadStarts 28 = .ok (.ifCond .eq 9, 3) := by decide +kernel
theorem dX3_roadStarts_31 : decode cX3_roadStarts 31 = .ok (.iload_n 1, 1) := by decide +kernel
theorem dX3_roadStarts_32 : decode cX3_roadStarts 32 = .ok (.iconst 1, 1) := by decide +kernel
theorem dX3_roadStarts_33 : decode cX3_roadStarts 33 = .ok (.iload_n 2, 1) := by decide +kernel
theorem dX3_roadStarts_34 : decode cX3_roadStarts 34 = .ok (.ishl, 1) := by decide +kernel
theorem dX3_roadStarts_35 : decode cX3_roadStarts 35 = .ok (.ior, 1) := by decide +kernel
theorem dX3_roadStarts_36 : decode cX3_roadStarts 36 = .ok (.istore_n 1, 1) := by decide +kernel
theorem dX3_roadStarts_37 : decode cX3_roadStarts 37 = .ok (.iinc 2 1, 3) := by decide +kernel
theorem dX3_roadStarts_40 : decode cX3_roadStarts 40 = .ok (.goto (-25), 3) := by decide +kernel
theorem dX3_roadStarts_43 : decode cX3_roadStarts 43 = .ok (.iload_n 1, 1) := by decide +kernel
theorem dX3_roadStarts_44 : decode cX3_roadStarts 44 = .ok (.ireturn, 1) := by decide +kernel
theorem zd_X3_roadStarts : yX3_roadStarts.cls ≠ "java/lang/invoke/MethodHandle" ∧ yX3_roadStarts.cls ≠ "java/lang/invoke/VarHandle" ∧ (parseMethodDescriptor yX3_roadStarts.desc).map (fun d => d.parameters.length) = some 0 := by decide +kernel
set_option maxHeartbeats 4000000 in
set_option maxRecDepth 100000 in
theorem zc_X3_roadStarts (l : Launch) (D : va_G) (cI cZ : ClassId) (r : Nat) (ro : Nat) (rn : Nat) (rr : Nat) (rt : Int32) (fr : Int32) (pr : Int32) (n : Nat) (m : Nat) (rd : Nat → Int32) (hn : n ≤ 5) (hm6 : m ≤ 6) : zI l yX3_roadStarts cX3_roadStarts 3 .int 2 42 D cI cZ [.ref r] [(r, .inr (3, [.ref ro, .ref rn, .ref rr, .int rt, .int fr, .int pr, .int (nI n), .int (nI m)])), (rr, .inl (cI, 5, .inl rd))] (fun (r : Int32) (u : Unit) => r = if m < 6 then zrs n rd n else 0) (fun (u : Unit) => [(r, .inr (3, [.ref ro, .ref rn, .ref rr, .int rt, .int fr, .int pr, .int (nI n), .int (nI m)])), (rr, .inl (cI, 5, .inl rd))]) := by
  refine zI_of (by decide) (Nat.le_of_ble_eq_true rfl) ?_
  intro pP eE sS mM aA bB mT cC A ls Z hP hD hS hl
  have hx := Z.1
  have hb := Z.2.1
  have hown := Z.2.2.2.2.2.1
  have hts := Z.2.2.2.2.1
  have Z : zAt pP sS mM aA mT cC D cI cZ A "SurpriseTax$Realm" cX3_roadStarts 3 (some .int) := Z
  have hl : lv_has ls 3 [(0, .ref r)] := hl
  obtain ⟨H, hH⟩ : ∃ H, H = sS.heap := ⟨_, rfl⟩
  have hP : va_P D vwCl [(r, .inr (3, [.ref ro, .ref rn, .ref rr, .int rt, .int fr, .int pr, .int (nI n), .int (nI m)])), (rr, .inl (cI, 5, .inl rd))] H := by rw [hH]; exact hP
  have hS : va_S A sS.heap H [] := by rw [hH]; exact hS
  rw [← hH]
  clear hH
  obtain ⟨locs, hlo⟩ : ∃ q : List Loc, q = [] := ⟨_, rfl⟩
  rw [← hlo] at hS ⊢
  clear hlo
  refine lv_aload_n hx hb dX3_roadStarts_0 rfl (lv_at hl 0 rfl) ?_
  refine z_get (ci := 3) (v := .int (nI m)) Z zin3 hP 0 rfl rfl 7 (by decide) zm79 rfl rfl dX3_roadStarts_1 ?_
  refine lv_bipush (v := nI 6) hx hb dX3_roadStarts_4 (by decide) ?_
  refine lv_icmp_lt (tgt := 11) hx hb dX3_roadStarts_6 (by decide) (fun c_1 => ?_) (fun c_1 => ?_)
  · have c_1 := zlt (i := m) (j := 6) (by omega) (by decide) c_1
    refine lv_iconst (v := nI 0) hx hb dX3_roadStarts_11 (by decide) ?_
    refine lv_istore_n (lv' := [(1, .int (nI 0)), (0, .ref r)]) hx hb dX3_roadStarts_12 rfl hl (by decide) rfl (fun ls hl => ?_)
    refine lv_iconst (v := nI 0) hx hb dX3_roadStarts_13 (by decide) ?_
    refine lv_istore_n (lv' := [(2, .int (nI 0)), (1, .int (nI 0)), (0, .ref r)]) hx hb dX3_roadStarts_14 rfl hl (by decide) rfl (fun ls hl => ?_)
    have hl : lv_has ls 3 [(2, .int (nI 0)), (1, .int (nI 0)), (0, .ref r)] := lv_sub hl [0, 1, 2] rfl
    have e_3 : nI 0 = zrs n rd 0 := by (first | rfl | (simp [nI_zero, zrs, c_1]; done) | (simp_all [nI_zero, zrs]; done))
    have hl : lv_has ls 3 [(2, .int (nI 0)), (1, .int (zrs n rd 0)), (0, .ref r)] := Eq.subst (motive := fun zz_ => lv_has ls 3 [(2, .int (nI 0)), (1, .int zz_), (0, .ref r)]) e_3 hl
    refine z_loop (fun i H locs ls => va_P D vwCl [(r, .inr (3, [.ref ro, .ref rn, .ref rr, .int rt, .int fr, .int pr, .int (nI n), .int (nI m)])), (rr, .inl (cI, 5, .inl rd))] H ∧ va_D A [(r, .inr (3, [.ref ro, .ref rn, .ref rr, .int rt, .int fr, .int pr, .int (nI n), .int (nI m)])), (rr, .inl (cI, 5, .inl rd))] ∧ va_S A sS.heap H locs ∧ lv_has ls 3 [(2, .int (nI i)), (1, .int (zrs n rd i)), (0, .ref r)]) (n) (lo := 0) (by omega) ⟨hP, hD, hS, hl⟩ (fun i hi_i ih_2 H locs ls hI => ?_)
    obtain ⟨hP, hD, hS, hl⟩ := hI
    have hP : va_P D vwCl [(r, .inr (3, [.ref ro, .ref rn, .ref rr, .int rt, .int fr, .int pr, .int (nI n), .int (nI m)])), (rr, .inl (cI, 5, .inl rd))] H := hP
    have hD : va_D A [(r, .inr (3, [.ref ro, .ref rn, .ref rr, .int rt, .int fr, .int pr, .int (nI n), .int (nI m)])), (rr, .inl (cI, 5, .inl rd))] := hD
    have hl : lv_has ls 3 [(2, .int (nI i)), (1, .int (zrs n rd i)), (0, .ref r)] := hl
    refine lv_iload_n hx hb dX3_roadStarts_15 rfl (lv_at hl 0 rfl) ?_
    refine lv_aload_n hx hb dX3_roadStarts_16 rfl (lv_at hl 2 rfl) ?_
    refine z_get (ci := 3) (v := .int (nI n)) Z zin3 hP 0 rfl rfl 6 (by decide) zm78 rfl rfl dX3_roadStarts_17 ?_
    refine lv_icmp_ge (tgt := 43) hx hb dX3_roadStarts_20 (by decide) (fun c_4 => ?_) (fun c_4 => ?_)
    · have c_4 := zle (i := n) (j := i) (by omega) (by omega) c_4
      have hE_ : n = i := by omega
      subst hE_
      refine lv_iload_n hx hb dX3_roadStarts_43 rfl (lv_at hl 1 rfl) ?_
      refine z_top (y := if m < 6 then zrs n rd n else 0) ((if_pos (by omega)).symm) ?_
      exact z_iret Z () rfl hP hS dX3_roadStarts_44
    · have c_4 := znle (i := n) (j := i) (by omega) (by omega) c_4
      refine lv_aload_n hx hb dX3_roadStarts_23 rfl (lv_at hl 2 rfl) ?_
      refine lv_iload_n hx hb dX3_roadStarts_24 rfl (lv_at hl 0 rfl) ?_
      refine z_callVi (As := [.int (nI i)]) (rest := []) (ci := 3) (k0 := 0) Z hP hD hS hl.1 (zc_X3_roadEnds l D cI cZ r ro rn rr rt fr pr n m rd (nI i) (by omega)) zm265 zm266 zm267 zm32 zm268 ⟨rfl, zd_X3_roadEnds⟩ ⟨Nat.le_of_ble_eq_true rfl, Nat.le_of_ble_eq_true rfl⟩ ⟨Nat.zero_le _, Nat.zero_le _⟩ [0, 1] rfl (by decide) rfl rfl rfl (fun _ => rfl) rfl (Nat.le_of_ble_eq_true rfl) rfl dX3_roadStarts_25 (fun r_5 u H locs h_6 hP hD hS => ?_)
      have hP : va_P D vwCl [(r, .inr (3, [.ref ro, .ref rn, .ref rr, .int rt, .int fr, .int pr, .int (nI n), .int (nI m)])), (rr, .inl (cI, 5, .inl rd))] H := hP
      have hD : va_D A [(r, .inr (3, [.ref ro, .ref rn, .ref rr, .int rt, .int fr, .int pr, .int (nI n), .int (nI m)])), (rr, .inl (cI, 5, .inl rd))] := hD
      have h_6 : r_5 = zre n rd (nI i) := h_6
      subst h_6
      refine z_top (y := zren n rd i) (zre_nat (by omega) (by omega)) ?_
      refine lv_if_eq (tgt := 37) hx hb dX3_roadStarts_28 (by decide) (fun c_7 => ?_) (fun c_7 => ?_)
      · have c_7 : (zren n rd i) = 0 := c_7
        refine lv_iinc (v := nI (i + 1)) (lv' := [(2, .int (nI (i + 1))), (1, .int (zrs n rd i)), (0, .ref r)]) hx hb dX3_roadStarts_37 hl (k := 0) rfl (z_inc _ 1) (by decide) rfl (fun ls hl => ?_)
        refine lv_goto (tgt := 15) hx hb dX3_roadStarts_40 (by decide) ?_
        have hl : lv_has ls 3 [(2, .int (nI (i + 1))), (1, .int (zrs n rd i)), (0, .ref r)] := lv_sub hl [0, 1, 2] rfl
        have e_8 : zrs n rd i = zrs n rd (i + 1) := by (first | rfl | (simp [nI_zero, zrs, c_1, c_4, c_7]; done) | (simp_all [nI_zero, zrs]; done))
        have hl : lv_has ls 3 [(2, .int (nI (i + 1))), (1, .int (zrs n rd (i + 1))), (0, .ref r)] := Eq.subst (motive := fun zz_ => lv_has ls 3 [(2, .int (nI (i + 1))), (1, .int zz_), (0, .ref r)]) e_8 hl
        exact ih_2 _ _ _ (by omega) ⟨hP, hD, hS, hl⟩
      · have c_7 : ¬ ((zren n rd i) = 0) := c_7
        refine lv_iload_n hx hb dX3_roadStarts_31 rfl (lv_at hl 1 rfl) ?_
        refine lv_iconst (v := nI 1) hx hb dX3_roadStarts_32 (by decide) ?_
        refine lv_iload_n hx hb dX3_roadStarts_33 rfl (lv_at hl 0 rfl) ?_
        refine lv_ishl hx hb dX3_roadStarts_34 ?_
        refine z_top (y := (1 : Int32) <<< ((nI i) &&& 31)) rfl ?_
        refine z_top (y := zbit i) (rfl) ?_
        refine lv_ior hx hb dX3_roadStarts_35 ?_
        refine z_top (y := (zrs n rd i) ||| (zbit i)) rfl ?_
        refine lv_istore_n (lv' := [(1, .int ((zrs n rd i) ||| (zbit i))), (2, .int (nI i)), (0, .ref r)]) hx hb dX3_roadStarts_36 rfl hl (by decide) rfl (fun ls hl => ?_)
        refine lv_iinc (v := nI (i + 1)) (lv' := [(2, .int (nI (i + 1))), (1, .int ((zrs n rd i) ||| (zbit i))), (0, .ref r)]) hx hb dX3_roadStarts_37 hl (k := 1) rfl (z_inc _ 1) (by decide) rfl (fun ls hl => ?_)
        refine lv_goto (tgt := 15) hx hb dX3_roadStarts_40 (by decide) ?_
        have hl : lv_has ls 3 [(2, .int (nI (i + 1))), (1, .int ((zrs n rd i) ||| (zbit i))), (0, .ref r)] := lv_sub hl [0, 1, 2] rfl
        have e_9 : (zrs n rd i) ||| (zbit i) = zrs n rd (i + 1) := by (first | rfl | (simp [nI_zero, zrs, c_1, c_4, c_7]; done) | (simp_all [nI_zero, zrs]; done))
        have hl : lv_has ls 3 [(2, .int (nI (i + 1))), (1, .int (zrs n rd (i + 1))), (0, .ref r)] := Eq.subst (motive := fun zz_ => lv_has ls 3 [(2, .int (nI (i + 1))), (1, .int zz_), (0, .ref r)]) e_9 hl
        exact ih_2 _ _ _ (by omega) ⟨hP, hD, hS, hl⟩
  · have c_1 := znlt (i := m) (j := 6) (by omega) (by decide) c_1
    refine lv_iconst (v := nI 0) hx hb dX3_roadStarts_9 (by decide) ?_
    refine z_top (y := if m < 6 then zrs n rd n else 0) ((if_neg (by omega)).symm) ?_
    exact z_iret Z () rfl hP hS dX3_roadStarts_10

theorem dX3_addRoad_0 : decode cX3_addRoad 0 = .ok (.aload_n 0, 1) := by decide +kernel
theorem dX3_addRoad_1 : decode cX3_addRoad 1 = .ok (.iload_n 1, 1) := by decide +kernel
theorem dX3_addRoad_2 : decode cX3_addRoad 2 = .ok (.invokevirtual 41, 3) := by decide +kernel
theorem dX3_addRoad_5 : decode cX3_addRoad 5 = .ok (.ifCond .eq 11, 3) := by decide +kernel
theorem dX3_addRoad_8 : decode cX3_addRoad 8 = .ok (.aload_n 0, 1) := by decide +kernel
theorem dX3_addRoad_9 : decode cX3_addRoad 9 = .ok (.iload_n 2, 1) := by decide +kernel
theorem dX3_addRoad_10 : decode cX3_addRoad 10 = .ok (.invokevirtual 41, 3) := by decide +kernel
theorem dX3_addRoad_13 : decode cX3_addRoad 13 = .ok (.ifCond .ne 4, 3) := by decide +kernel
theorem dX3_addRoad_17 : decode cX3_addRoad 17 = .ok (.aload_n 0, 1) := by decide +kernel
theorem dX3_addRoad_18 : decode cX3_addRoad 18 = .ok (.getfield 18, 3) := by decide +kernel
theorem dX3_addRoad_21 : decode cX3_addRoad 21 = .ok (.iload_n 1, 1) := by decide +kernel
theorem dX3_addRoad_22 : decode cX3_addRoad 22 = .ok (.dup2, 1) := by decide +kernel
theorem dX3_addRoad_23 : decode cX3_addRoad 23 = .ok (.iaload, 1) := by decide +kernel
theorem dX3_addRoad_24 : decode cX3_addRoad 24 = .ok (.iconst 1, 1) := by decide +kernel
theorem dX3_addRoad_25 : decode cX3_addRoad 25 = .ok (.iload_n 2, 1) := by decide +kernel
theorem dX3_addRoad_26 : decode cX3_addRoad 26 = .ok (.ishl, 1) := by decide +kernel
theorem dX3_addRoad_27 : decode cX3_addRoad 27 = .ok (.ior, 1) := by decide +kernel
theorem dX3_addRoad_28 : decode cX3_addRoad 28 = .ok (.iastore, 1) := by decide +kernel
theorem dX3_addRoad_29 : decode cX3_addRoad 29 = .ok (.aload_n 0, 1) := by decide +kernel
theorem dX3_addRoad_30 : decode cX3_addRoad 30 = .ok (.getfield 18, 3) := by decide +kernel
theorem dX3_addRoad_33 : decode cX3_addRoad 33 = .ok (.iload_n 2, 1) := by decide +kernel
theorem dX3_addRoad_34 : decode cX3_addRoad 34 = .ok (.dup2, 1) := by decide +kernel
theorem dX3_addRoad_35 : decode cX3_addRoad 35 = .ok (.iaload, 1) := by decide +kernel
theorem dX3_addRoad_36 : decode cX3_addRoad 36 = .ok (.iconst 1, 1) := by decide +kernel
theorem dX3_addRoad_37 : decode cX3_addRoad 37 = .ok (.iload_n 1, 1) := by decide +kernel
theorem dX3_addRoad_38 : decode cX3_addRoad 38 = .ok (.ishl, 1) := by decide +kernel
theorem dX3_addRoad_39 : decode cX3_addRoad 39 = .ok (.ior, 1) := by decide +kernel
theorem dX3_addRoad_40 : decode cX3_addRoad 40 = .ok (.iastore, 1) := by decide +kernel
theorem dX3_addRoad_41 : decode cX3_addRoad 41 = .ok (.aload_n 0, 1) := by decide +kernel
theorem dX3_addRoad_42 : decode cX3_addRoad 42 = .ok (.dup, 1) := by decide +kernel
theorem dX3_addRoad_43 : decode cX3_addRoad 43 = .ok (.getfield 34, 3) := by decide +kernel
theorem dX3_addRoad_46 : decode cX3_addRoad 46 = .ok (.iconst 1, 1) := by decide +kernel
theorem dX3_addRoad_47 : decode cX3_addRoad 47 = .ok (.iadd, 1) := by decide +kernel
theorem dX3_addRoad_48 : decode cX3_addRoad 48 = .ok (.putfield 34, 3) := by decide +kernel
theorem dX3_addRoad_51 : decode cX3_addRoad 51 = .ok (.return_, 1) := by decide +kernel
theorem zd_X3_addRoad : yX3_addRoad.cls ≠ "java/lang/invoke/MethodHandle" ∧ yX3_addRoad.cls ≠ "java/lang/invoke/VarHandle" ∧ (parseMethodDescriptor yX3_addRoad.desc).map (fun d => d.parameters.length) = some 2 := by decide +kernel
set_option maxHeartbeats 4000000 in
set_option maxRecDepth 100000 in
theorem zc_X3_addRoad (l : Launch) (D : va_G) (cI cZ : ClassId) (r : Nat) (ro : Nat) (rn : Nat) (rr : Nat) (rt : Int32) (fr : Int32) (pr : Int32) (n : Nat) (m : Nat) (rd : Nat → Int32) (i : Nat) (j : Nat) (hn : n ≤ 5) (hi : i < n) (hj : j < n) : zV l yX3_addRoad cX3_addRoad 3 1 21 D cI cZ [.ref r, .int (nI i), .int (nI j)] [(r, .inr (3, [.ref ro, .ref rn, .ref rr, .int rt, .int fr, .int pr, .int (nI n), .int (nI m)])), (rr, .inl (cI, 5, .inl rd))] (fun (u : Unit) => True) (fun (u : Unit) => [(r, .inr (3, [.ref ro, .ref rn, .ref rr, .int rt, .int fr, .int pr, .int (nI n), .int (nI (m + 1))])), (rr, .inl (cI, 5, .inl (upd (upd rd i (rd i ||| zbit j)) j (upd rd i (rd i ||| zbit j) j ||| zbit i))))]) := by
  refine zV_of (by decide) (Nat.le_of_ble_eq_true rfl) ?_
  intro pP eE sS mM aA bB mT cC A ls Z hP hD hS hl
  have hx := Z.1
  have hb := Z.2.1
  have hown := Z.2.2.2.2.2.1
  have hts := Z.2.2.2.2.1
  have Z : zAt pP sS mM aA mT cC D cI cZ A "SurpriseTax$Realm" cX3_addRoad 3 none := Z
  have hl : lv_has ls 3 [(0, .ref r), (1, .int (nI i)), (2, .int (nI j))] := hl
  obtain ⟨H, hH⟩ : ∃ H, H = sS.heap := ⟨_, rfl⟩
  have hP : va_P D vwCl [(r, .inr (3, [.ref ro, .ref rn, .ref rr, .int rt, .int fr, .int pr, .int (nI n), .int (nI m)])), (rr, .inl (cI, 5, .inl rd))] H := by rw [hH]; exact hP
  have hS : va_S A sS.heap H [] := by rw [hH]; exact hS
  rw [← hH]
  clear hH
  obtain ⟨locs, hlo⟩ : ∃ q : List Loc, q = [] := ⟨_, rfl⟩
  rw [← hlo] at hS ⊢
  clear hlo
  refine lv_aload_n hx hb dX3_addRoad_0 rfl (lv_at hl 0 rfl) ?_
  refine lv_iload_n hx hb dX3_addRoad_1 rfl (lv_at hl 1 rfl) ?_
  refine z_callVi (As := [.int (nI i)]) (rest := []) (ci := 3) (k0 := 0) Z hP hD hS hl.1 (zc_X3_has l D cI cZ r ro rn rr rt fr pr n m (nI i) ) zm269 zm270 zm271 zm32 zm272 ⟨rfl, zd_X3_has⟩ ⟨Nat.le_of_ble_eq_true rfl, Nat.le_of_ble_eq_true rfl⟩ ⟨Nat.zero_le _, Nat.zero_le _⟩ [0] rfl (by decide) rfl rfl rfl (fun _ => rfl) rfl (Nat.le_of_ble_eq_true rfl) rfl dX3_addRoad_2 (fun r_1 u H locs h_2 hP hD hS => ?_)
  have hP : va_P D vwCl [(r, .inr (3, [.ref ro, .ref rn, .ref rr, .int rt, .int fr, .int pr, .int (nI n), .int (nI m)])), (rr, .inl (cI, 5, .inl rd))] H := hP
  have hD : va_D A [(r, .inr (3, [.ref ro, .ref rn, .ref rr, .int rt, .int fr, .int pr, .int (nI n), .int (nI m)])), (rr, .inl (cI, 5, .inl rd))] := hD
  have h_2 : r_1 = if zhas n (nI i) then 1 else 0 := h_2
  subst h_2
  refine lv_if_eq (tgt := 16) hx hb dX3_addRoad_5 (by decide) (fun c_3 => ?_) (fun c_3 => ?_)
  · have c_3 := zb0 c_3
    exact absurd (zhas_nat hi (by omega)) c_3
  · have c_3 := zb1 c_3
    refine lv_aload_n hx hb dX3_addRoad_8 rfl (lv_at hl 0 rfl) ?_
    refine lv_iload_n hx hb dX3_addRoad_9 rfl (lv_at hl 2 rfl) ?_
    refine z_callVi (As := [.int (nI j)]) (rest := []) (ci := 3) (k0 := 0) Z hP hD hS hl.1 (zc_X3_has l D cI cZ r ro rn rr rt fr pr n m (nI j) ) zm269 zm270 zm271 zm32 zm272 ⟨rfl, zd_X3_has⟩ ⟨Nat.le_of_ble_eq_true rfl, Nat.le_of_ble_eq_true rfl⟩ ⟨Nat.zero_le _, Nat.zero_le _⟩ [0] rfl (by decide) rfl rfl rfl (fun _ => rfl) rfl (Nat.le_of_ble_eq_true rfl) rfl dX3_addRoad_10 (fun r_4 u H locs h_5 hP hD hS => ?_)
    have hP : va_P D vwCl [(r, .inr (3, [.ref ro, .ref rn, .ref rr, .int rt, .int fr, .int pr, .int (nI n), .int (nI m)])), (rr, .inl (cI, 5, .inl rd))] H := hP
    have hD : va_D A [(r, .inr (3, [.ref ro, .ref rn, .ref rr, .int rt, .int fr, .int pr, .int (nI n), .int (nI m)])), (rr, .inl (cI, 5, .inl rd))] := hD
    have h_5 : r_4 = if zhas n (nI j) then 1 else 0 := h_5
    subst h_5
    refine lv_if_ne (tgt := 17) hx hb dX3_addRoad_13 (by decide) (fun c_6 => ?_) (fun c_6 => ?_)
    · have c_6 := zb1 c_6
      refine lv_aload_n hx hb dX3_addRoad_17 rfl (lv_at hl 0 rfl) ?_
      refine z_get (ci := 3) (v := .ref rr) Z zin3 hP 0 rfl rfl 2 (by decide) zm74 rfl rfl dX3_addRoad_18 ?_
      refine lv_iload_n hx hb dX3_addRoad_21 rfl (lv_at hl 1 rfl) ?_
      refine lv_dup2_11 hx hb dX3_addRoad_22 rfl rfl ?_
      refine z_iald (n := 5) (f := rd) (j := i) Z hP 1 rfl (by omega) (by decide) dX3_addRoad_23 ?_
      refine lv_iconst (v := nI 1) hx hb dX3_addRoad_24 (by decide) ?_
      refine lv_iload_n hx hb dX3_addRoad_25 rfl (lv_at hl 2 rfl) ?_
      refine lv_ishl hx hb dX3_addRoad_26 ?_
      refine z_top (y := (1 : Int32) <<< ((nI j) &&& 31)) rfl ?_
      refine z_top (y := zbit j) (rfl) ?_
      refine lv_ior hx hb dX3_addRoad_27 ?_
      refine z_top (y := (rd i) ||| (zbit j)) rfl ?_
      refine z_iast (n := 5) (f := rd) (j := i) (x := (rd i) ||| (zbit j)) Z hP hD hS 1 rfl (by omega) (by decide) dX3_addRoad_28 (fun H locs hP hD hS => ?_)
      have hP : va_P D vwCl [(r, .inr (3, [.ref ro, .ref rn, .ref rr, .int rt, .int fr, .int pr, .int (nI n), .int (nI m)])), (rr, .inl (cI, 5, .inl (upd rd i ((rd i) ||| (zbit j)))))] H := hP
      have hD : va_D A [(r, .inr (3, [.ref ro, .ref rn, .ref rr, .int rt, .int fr, .int pr, .int (nI n), .int (nI m)])), (rr, .inl (cI, 5, .inl (upd rd i ((rd i) ||| (zbit j)))))] := hD
      refine lv_aload_n hx hb dX3_addRoad_29 rfl (lv_at hl 0 rfl) ?_
      refine z_get (ci := 3) (v := .ref rr) Z zin3 hP 0 rfl rfl 2 (by decide) zm74 rfl rfl dX3_addRoad_30 ?_
      refine lv_iload_n hx hb dX3_addRoad_33 rfl (lv_at hl 2 rfl) ?_
      refine lv_dup2_11 hx hb dX3_addRoad_34 rfl rfl ?_
      refine z_iald (n := 5) (f := upd rd i ((rd i) ||| (zbit j))) (j := j) Z hP 1 rfl (by omega) (by decide) dX3_addRoad_35 ?_
      refine lv_iconst (v := nI 1) hx hb dX3_addRoad_36 (by decide) ?_
      refine lv_iload_n hx hb dX3_addRoad_37 rfl (lv_at hl 1 rfl) ?_
      refine lv_ishl hx hb dX3_addRoad_38 ?_
      refine z_top (y := (1 : Int32) <<< ((nI i) &&& 31)) rfl ?_
      refine z_top (y := zbit i) (rfl) ?_
      refine lv_ior hx hb dX3_addRoad_39 ?_
      refine z_top (y := ((upd rd i ((rd i) ||| (zbit j))) j) ||| (zbit i)) rfl ?_
      refine z_iast (n := 5) (f := upd rd i ((rd i) ||| (zbit j))) (j := j) (x := ((upd rd i ((rd i) ||| (zbit j))) j) ||| (zbit i)) Z hP hD hS 1 rfl (by omega) (by decide) dX3_addRoad_40 (fun H locs hP hD hS => ?_)
      have hP : va_P D vwCl [(r, .inr (3, [.ref ro, .ref rn, .ref rr, .int rt, .int fr, .int pr, .int (nI n), .int (nI m)])), (rr, .inl (cI, 5, .inl (upd (upd rd i ((rd i) ||| (zbit j))) j (((upd rd i ((rd i) ||| (zbit j))) j) ||| (zbit i)))))] H := hP
      have hD : va_D A [(r, .inr (3, [.ref ro, .ref rn, .ref rr, .int rt, .int fr, .int pr, .int (nI n), .int (nI m)])), (rr, .inl (cI, 5, .inl (upd (upd rd i ((rd i) ||| (zbit j))) j (((upd rd i ((rd i) ||| (zbit j))) j) ||| (zbit i)))))] := hD
      refine lv_aload_n hx hb dX3_addRoad_41 rfl (lv_at hl 0 rfl) ?_
      refine lv_dup hx hb dX3_addRoad_42 rfl ?_
      refine z_get (ci := 3) (v := .int (nI m)) Z zin3 hP 0 rfl rfl 7 (by decide) zm79 rfl rfl dX3_addRoad_43 ?_
      refine lv_iconst (v := nI 1) hx hb dX3_addRoad_46 (by decide) ?_
      refine lv_iadd hx hb dX3_addRoad_47 ?_
      refine z_top (y := nI (m + 1)) (z_add _ _) ?_
      refine z_put (ci := 3) (v := .int (nI (m + 1))) Z zin3 tyX3 tyX3_ok nmX3 hP hD hS 0 rfl rfl 7 (by decide) zm79 rfl rfl rfl rfl (Nat.le_of_ble_eq_true rfl) dX3_addRoad_48 (fun H locs hP hD hS => ?_)
      have hP : va_P D vwCl [(r, .inr (3, [.ref ro, .ref rn, .ref rr, .int rt, .int fr, .int pr, .int (nI n), .int (nI (m + 1))])), (rr, .inl (cI, 5, .inl (upd (upd rd i ((rd i) ||| (zbit j))) j (((upd rd i ((rd i) ||| (zbit j))) j) ||| (zbit i)))))] H := hP
      have hD : va_D A [(r, .inr (3, [.ref ro, .ref rn, .ref rr, .int rt, .int fr, .int pr, .int (nI n), .int (nI (m + 1))])), (rr, .inl (cI, 5, .inl (upd (upd rd i ((rd i) ||| (zbit j))) j (((upd rd i ((rd i) ||| (zbit j))) j) ||| (zbit i)))))] := hD
      have e_7 : upd (upd rd i ((rd i) ||| (zbit j))) j (((upd rd i ((rd i) ||| (zbit j))) j) ||| (zbit i)) = upd (upd rd i (rd i ||| zbit j)) j (upd rd i (rd i ||| zbit j) j ||| zbit i) := by (first | rfl | (simp [c_3, c_6]; done) | (simp_all []; done))
      have hP : va_P D vwCl [(r, .inr (3, [.ref ro, .ref rn, .ref rr, .int rt, .int fr, .int pr, .int (nI n), .int (nI (m + 1))])), (rr, .inl (cI, 5, .inl (upd (upd rd i (rd i ||| zbit j)) j (upd rd i (rd i ||| zbit j) j ||| zbit i))))] H := Eq.subst (motive := fun zz_ => va_P D vwCl [(r, .inr (3, [.ref ro, .ref rn, .ref rr, .int rt, .int fr, .int pr, .int (nI n), .int (nI (m + 1))])), (rr, .inl (cI, 5, .inl zz_))] H) e_7 hP
      have hD : va_D A [(r, .inr (3, [.ref ro, .ref rn, .ref rr, .int rt, .int fr, .int pr, .int (nI n), .int (nI (m + 1))])), (rr, .inl (cI, 5, .inl (upd (upd rd i (rd i ||| zbit j)) j (upd rd i (rd i ||| zbit j) j ||| zbit i))))] := zD_of hD rfl
      exact z_vret Z () trivial hP hS dX3_addRoad_51
    · have c_6 := zb0 c_6
      exact absurd (zhas_nat hj (by omega)) c_6

theorem dX3_isBraced_0 : decode cX3_isBraced 0 = .ok (.iconst 0, 1) := by decide +kernel
theorem dX3_isBraced_1 : decode cX3_isBraced 1 = .ok (.istore_n 2, 1) := by decide +kernel
theorem dX3_isBraced_2 : decode cX3_isBraced 2 = .ok (.iload_n 2, 1) := by decide +kernel
theorem dX3_isBraced_3 : decode cX3_isBraced 3 = .ok (.aload_n 0, 1) := by decide +kernel
theorem dX3_isBraced_4 : decode cX3_isBraced 4 = .ok (.getfield 31, 3) := by decide +kernel
theorem dX3_isBraced_7 : decode cX3_isBraced 7 = .ok (.if_icmp .ge 54, 3) := by decide +kernel
theorem dX3_isBraced_10 : decode cX3_isBraced 10 = .ok (.aload_n 0, 1) := by decide +kernel
theorem dX3_isBraced_11 : decode cX3_isBraced 11 = .ok (.getfield 18, 3) := by decide +kernel
theorem dX3_isBraced_14 : decode cX3_isBraced 14 = .ok (.iload_n 2, 1) := by decide +kernel
theorem dX3_isBraced_15 : decode cX3_isBraced 15 = .ok (.iaload, 1) := by decide +kernel
theorem dX3_isBraced_16 : decode cX3_isBraced 16 = .ok (.iload_n 1, 1) := by decide +kernel
theorem dX3_isBraced_17 : decode cX3_isBraced 17 = .ok (.iand, 1) := by decide +kernel
theorem dX3_isBraced_18 : decode cX3_isBraced 18 = .ok (.invokestatic 49, 3) := by decide +kernel
theorem dX3_isBraced_21 : decode cX3_isBraced 21 = .ok (.aload_n 0, 1) := by decide +kernel
theorem dX3_isBraced_22 : decode cX3_isBraced 22 = .ok (.getfield 15, 3) := by decide +kernel
theorem dX3_isBraced_25 : decode cX3_isBraced 25 = .ok (.iload_n 2, 1) := by decide +kernel
theorem dX3_isBraced_26 : decode cX3_isBraced 26 = .ok (.iaload, 1) := by decide +kernel
theorem dX3_isBraced_27 : decode cX3_isBraced 27 = .ok (.if_icmp .lt 7, 3) := by decide +kernel
theorem dX3_isBraced_30 : decode cX3_isBraced 30 = .ok (.iconst 1, 1) := by decide +kernel
theorem dX3_isBraced_31 : decode cX3_isBraced 31 = .ok (.goto 4, 3) := by decide +kernel
theorem dX3_isBraced_34 : decode cX3_isBraced 34 = .ok (.iconst 0, 1) := by decide +kernel
theorem dX3_isBraced_35 : decode cX3_isBraced 35 = .ok (.istore_n 3, 1) := by decide +kernel
theorem dX3_isBraced_36 : decode cX3_isBraced 36 = .ok (.iload_n 3, 1) := by decide +kernel
theorem dX3_isBraced_37 : decode cX3_isBraced 37 = .ok (.iload_n 1, 1) := by decide +kernel
theorem dX3_isBraced_38 : decode cX3_isBraced 38 = .ok (.iload_n 2, 1) := by decide +kernel
theorem dX3_isBraced_39 : decode cX3_isBraced 39 = .ok (.ishr, 1) := by decide +kernel
theorem dX3_isBraced_40 : decode cX3_isBraced 40 = .ok (.iconst 1, 1) := by decide +kernel
theorem dX3_isBraced_41 : decode cX3_isBraced 41 = .ok (.iand, 1) := by decide +kernel
theorem dX3_isBraced_42 : decode cX3_isBraced 42 = .ok (.ifCond .eq 7, 3) := by decide +kernel
theorem dX3_isBraced_45 : decode cX3_isBraced 45 = .ok (.iconst 1, 1) := by decide +kernel
theorem dX3_isBraced_46 : decode cX3_isBraced 46 = .ok (.goto 4, 3) := by decide +kernel
theorem dX3_isBraced_49 : decode cX3_isBraced 49 = .ok (.iconst 0, 1) := by decide +kernel
theorem dX3_isBraced_50 : decode cX3_isBraced 50 = .ok (.if_icmp .eq 5, 3) := by decide +kernel
theorem dX3_isBraced_53 : decode cX3_isBraced 53 = .ok (.iconst 0, 1) := by decide +kernel
theorem dX3_isBraced_54 : decode cX3_isBraced 54 = .ok (.ireturn, 1) := by decide +kernel
theorem dX3_isBraced_55 : decode cX3_isBraced 55 = .ok (.iinc 2 1, 3) := by decide +kernel
theorem dX3_isBraced_58 : decode cX3_isBraced 58 = .ok (.goto (-56), 3) := by decide +kernel
theorem dX3_isBraced_61 : decode cX3_isBraced 61 = .ok (.iconst 1, 1) := by decide +kernel
theorem dX3_isBraced_62 : decode cX3_isBraced 62 = .ok (.ireturn, 1) := by decide +kernel
theorem zd_X3_isBraced : yX3_isBraced.cls ≠ "java/lang/invoke/MethodHandle" ∧ yX3_isBraced.cls ≠ "java/lang/invoke/VarHandle" ∧ (parseMethodDescriptor yX3_isBraced.desc).map (fun d => d.parameters.length) = some 1 := by decide +kernel
set_option maxHeartbeats 4000000 in
set_option maxRecDepth 100000 in
theorem zc_X3_isBraced (l : Launch) (D : va_G) (cI cZ : ClassId) (r : Nat) (ro : Nat) (rn : Nat) (rr : Nat) (rt : Int32) (fr : Int32) (pr : Int32) (n : Nat) (m : Nat) (rd : Nat → Int32) (nv : Nat → Int32) (t : Int32) (hn : n ≤ 5) : zI l yX3_isBraced cX3_isBraced 4 .boolean 1 20 D cI cZ [.ref r, .int t] [(r, .inr (3, [.ref ro, .ref rn, .ref rr, .int rt, .int fr, .int pr, .int (nI n), .int (nI m)])), (rn, .inl (cI, 5, .inl nv)), (rr, .inl (cI, 5, .inl rd))] (fun (r : Int32) (u : Unit) => r = if zbr rd nv t n = true then 1 else 0) (fun (u : Unit) => [(r, .inr (3, [.ref ro, .ref rn, .ref rr, .int rt, .int fr, .int pr, .int (nI n), .int (nI m)])), (rn, .inl (cI, 5, .inl nv)), (rr, .inl (cI, 5, .inl rd))]) := by
  refine zI_of (by decide) (Nat.le_of_ble_eq_true rfl) ?_
  intro pP eE sS mM aA bB mT cC A ls Z hP hD hS hl
  have hx := Z.1
  have hb := Z.2.1
  have hown := Z.2.2.2.2.2.1
  have hts := Z.2.2.2.2.1
  have Z : zAt pP sS mM aA mT cC D cI cZ A "SurpriseTax$Realm" cX3_isBraced 4 (some .boolean) := Z
  have hl : lv_has ls 4 [(0, .ref r), (1, .int t)] := hl
  obtain ⟨H, hH⟩ : ∃ H, H = sS.heap := ⟨_, rfl⟩
  have hP : va_P D vwCl [(r, .inr (3, [.ref ro, .ref rn, .ref rr, .int rt, .int fr, .int pr, .int (nI n), .int (nI m)])), (rn, .inl (cI, 5, .inl nv)), (rr, .inl (cI, 5, .inl rd))] H := by rw [hH]; exact hP
  have hS : va_S A sS.heap H [] := by rw [hH]; exact hS
  rw [← hH]
  clear hH
  obtain ⟨locs, hlo⟩ : ∃ q : List Loc, q = [] := ⟨_, rfl⟩
  rw [← hlo] at hS ⊢
  clear hlo
  refine lv_iconst (v := nI 0) hx hb dX3_isBraced_0 (by decide) ?_
  refine lv_istore_n (lv' := [(2, .int (nI 0)), (0, .ref r), (1, .int t)]) hx hb dX3_isBraced_1 rfl hl (by decide) rfl (fun ls hl => ?_)
  have hl : lv_has ls 4 [(2, .int (nI 0)), (0, .ref r), (1, .int t)] := lv_sub hl [0, 1, 2] rfl
  refine z_loop (fun i H locs ls => va_P D vwCl [(r, .inr (3, [.ref ro, .ref rn, .ref rr, .int rt, .int fr, .int pr, .int (nI n), .int (nI m)])), (rn, .inl (cI, 5, .inl nv)), (rr, .inl (cI, 5, .inl rd))] H ∧ va_D A [(r, .inr (3, [.ref ro, .ref rn, .ref rr, .int rt, .int fr, .int pr, .int (nI n), .int (nI m)])), (rn, .inl (cI, 5, .inl nv)), (rr, .inl (cI, 5, .inl rd))] ∧ va_S A sS.heap H locs ∧ lv_has ls 4 [(2, .int (nI i)), (0, .ref r), (1, .int t)] ∧ (zbr rd nv t i = true)) (n) (lo := 0) (by omega) ⟨hP, hD, hS, hl, (by rfl)⟩ (fun i hi_i ih_1 H locs ls hI => ?_)
  obtain ⟨hP, hD, hS, hl, hv2_0⟩ := hI
  have hv2_0 : zbr rd nv t i = true := hv2_0
  have hP : va_P D vwCl [(r, .inr (3, [.ref ro, .ref rn, .ref rr, .int rt, .int fr, .int pr, .int (nI n), .int (nI m)])), (rn, .inl (cI, 5, .inl nv)), (rr, .inl (cI, 5, .inl rd))] H := hP
  have hD : va_D A [(r, .inr (3, [.ref ro, .ref rn, .ref rr, .int rt, .int fr, .int pr, .int (nI n), .int (nI m)])), (rn, .inl (cI, 5, .inl nv)), (rr, .inl (cI, 5, .inl rd))] := hD
  have hl : lv_has ls 4 [(2, .int (nI i)), (0, .ref r), (1, .int t)] := hl
  refine lv_iload_n hx hb dX3_isBraced_2 rfl (lv_at hl 0 rfl) ?_
  refine lv_aload_n hx hb dX3_isBraced_3 rfl (lv_at hl 1 rfl) ?_
  refine z_get (ci := 3) (v := .int (nI n)) Z zin3 hP 0 rfl rfl 6 (by decide) zm78 rfl rfl dX3_isBraced_4 ?_
  refine lv_icmp_ge (tgt := 61) hx hb dX3_isBraced_7 (by decide) (fun c_2 => ?_) (fun c_2 => ?_)
  · have c_2 := zle (i := n) (j := i) (by omega) (by omega) c_2
    have hE_ : n = i := by omega
    subst hE_
    refine lv_iconst (v := nI 1) hx hb dX3_isBraced_61 (by decide) ?_
    exact z_zret Z () (by decide) (by rw [hv2_0]; rfl) hP hS dX3_isBraced_62
  · have c_2 := znle (i := n) (j := i) (by omega) (by omega) c_2
    refine lv_aload_n hx hb dX3_isBraced_10 rfl (lv_at hl 1 rfl) ?_
    refine z_get (ci := 3) (v := .ref rr) Z zin3 hP 0 rfl rfl 2 (by decide) zm74 rfl rfl dX3_isBraced_11 ?_
    refine lv_iload_n hx hb dX3_isBraced_14 rfl (lv_at hl 0 rfl) ?_
    refine z_iald (n := 5) (f := rd) (j := i) Z hP 2 rfl (by omega) (by decide) dX3_isBraced_15 ?_
    refine lv_iload_n hx hb dX3_isBraced_16 rfl (lv_at hl 2 rfl) ?_
    refine lv_iand hx hb dX3_isBraced_17 ?_
    refine z_top (y := (rd i) &&& t) rfl ?_
    refine z_callSi (As := [.int ((rd i) &&& t)]) (rest := []) Z hP hD hS hl.1 (zc_J6_bitCount_0f7a4 l D cI cZ ((rd i) &&& t) ) zm598 zm599 zm42 zm600 zd_J6_bitCount_0f7a4 ⟨Nat.le_of_ble_eq_true rfl, Nat.le_of_ble_eq_true rfl⟩ ⟨Nat.zero_le _, Nat.zero_le _⟩ [] rfl (by decide) (fun _ => rfl) rfl (Nat.le_of_ble_eq_true rfl) rfl dX3_isBraced_18 (fun r_3 u H locs h_4 hP hD hS => ?_)
    have hP : va_P D vwCl [(r, .inr (3, [.ref ro, .ref rn, .ref rr, .int rt, .int fr, .int pr, .int (nI n), .int (nI m)])), (rn, .inl (cI, 5, .inl nv)), (rr, .inl (cI, 5, .inl rd))] H := hP
    have hD : va_D A [(r, .inr (3, [.ref ro, .ref rn, .ref rr, .int rt, .int fr, .int pr, .int (nI n), .int (nI m)])), (rn, .inl (cI, 5, .inl nv)), (rr, .inl (cI, 5, .inl rd))] := hD
    have h_4 : r_3 = zbc ((rd i) &&& t) := h_4
    subst h_4
    refine lv_aload_n hx hb dX3_isBraced_21 rfl (lv_at hl 1 rfl) ?_
    refine z_get (ci := 3) (v := .ref rn) Z zin3 hP 0 rfl rfl 1 (by decide) zm73 rfl rfl dX3_isBraced_22 ?_
    refine lv_iload_n hx hb dX3_isBraced_25 rfl (lv_at hl 0 rfl) ?_
    refine z_iald (n := 5) (f := nv) (j := i) Z hP 1 rfl (by omega) (by decide) dX3_isBraced_26 ?_
    refine lv_icmp_lt (tgt := 34) hx hb dX3_isBraced_27 (by decide) (fun c_5 => ?_) (fun c_5 => ?_)
    · have c_5 : (zbc ((rd i) &&& t)) < (nv i) := c_5
      refine lv_iconst (v := nI 0) hx hb dX3_isBraced_34 (by decide) ?_
      refine lv_istore_n (lv' := [(3, .int (nI 0)), (2, .int (nI i)), (0, .ref r), (1, .int t)]) hx hb dX3_isBraced_35 rfl hl (by decide) rfl (fun ls hl => ?_)
      refine lv_iload_n hx hb dX3_isBraced_36 rfl (lv_at hl 0 rfl) ?_
      refine lv_iload_n hx hb dX3_isBraced_37 rfl (lv_at hl 3 rfl) ?_
      refine lv_iload_n hx hb dX3_isBraced_38 rfl (lv_at hl 1 rfl) ?_
      refine lv_ishr hx hb dX3_isBraced_39 ?_
      refine z_top (y := t >>> ((nI i) &&& 31)) rfl ?_
      refine lv_iconst (v := nI 1) hx hb dX3_isBraced_40 (by decide) ?_
      refine lv_iand hx hb dX3_isBraced_41 ?_
      refine z_top (y := (t >>> ((nI i) &&& 31)) &&& 1) rfl ?_
      refine lv_if_eq (tgt := 49) hx hb dX3_isBraced_42 (by decide) (fun c_6 => ?_) (fun c_6 => ?_)
      · have c_6 : ((t >>> ((nI i) &&& 31)) &&& 1) = 0 := c_6
        refine lv_iconst (v := nI 0) hx hb dX3_isBraced_49 (by decide) ?_
        refine lv_icmp_eq (tgt := 55) hx hb dX3_isBraced_50 (by decide) (fun c_7 => ?_) (fun c_7 => ?_)
        · have c_7 := zeq (i := 0) (j := 0) (by decide) (by decide) c_7
          refine lv_iinc (v := nI (i + 1)) (lv' := [(2, .int (nI (i + 1))), (3, .int (nI 0)), (0, .ref r), (1, .int t)]) hx hb dX3_isBraced_55 hl (k := 1) rfl (z_inc _ 1) (by decide) rfl (fun ls hl => ?_)
          refine lv_goto (tgt := 2) hx hb dX3_isBraced_58 (by decide) ?_
          have hl : lv_has ls 4 [(2, .int (nI (i + 1))), (0, .ref r), (1, .int t)] := lv_sub hl [0, 2, 3] rfl
          exact ih_1 _ _ _ (by omega) ⟨hP, hD, hS, hl, (by simp [zbr, *, zbok])⟩
        · exact absurd c_7 (by decide)
      · have c_6 : ¬ (((t >>> ((nI i) &&& 31)) &&& 1) = 0) := c_6
        refine lv_iconst (v := nI 1) hx hb dX3_isBraced_45 (by decide) ?_
        refine lv_goto (tgt := 50) hx hb dX3_isBraced_46 (by decide) ?_
        refine lv_icmp_eq (tgt := 55) hx hb dX3_isBraced_50 (by decide) (fun c_8 => ?_) (fun c_8 => ?_)
        · exact absurd c_8 (by decide)
        · have c_8 := zne (i := 0) (j := 1) c_8
          have hz := zbr_false (rd := rd) (nv := nv) (s := t) (i := i) (n := n) (by simp [zbok, *]) (by omega)
          refine lv_iconst (v := nI 0) hx hb dX3_isBraced_53 (by decide) ?_
          exact z_zret Z () (by decide) (by rw [hz]; rfl) hP hS dX3_isBraced_54
    · have c_5 : ¬ ((zbc ((rd i) &&& t)) < (nv i)) := c_5
      refine lv_iconst (v := nI 1) hx hb dX3_isBraced_30 (by decide) ?_
      refine lv_goto (tgt := 35) hx hb dX3_isBraced_31 (by decide) ?_
      refine lv_istore_n (lv' := [(3, .int (nI 1)), (2, .int (nI i)), (0, .ref r), (1, .int t)]) hx hb dX3_isBraced_35 rfl hl (by decide) rfl (fun ls hl => ?_)
      refine lv_iload_n hx hb dX3_isBraced_36 rfl (lv_at hl 0 rfl) ?_
      refine lv_iload_n hx hb dX3_isBraced_37 rfl (lv_at hl 3 rfl) ?_
      refine lv_iload_n hx hb dX3_isBraced_38 rfl (lv_at hl 1 rfl) ?_
      refine lv_ishr hx hb dX3_isBraced_39 ?_
      refine z_top (y := t >>> ((nI i) &&& 31)) rfl ?_
      refine lv_iconst (v := nI 1) hx hb dX3_isBraced_40 (by decide) ?_
      refine lv_iand hx hb dX3_isBraced_41 ?_
      refine z_top (y := (t >>> ((nI i) &&& 31)) &&& 1) rfl ?_
      refine lv_if_eq (tgt := 49) hx hb dX3_isBraced_42 (by decide) (fun c_9 => ?_) (fun c_9 => ?_)
      · have c_9 : ((t >>> ((nI i) &&& 31)) &&& 1) = 0 := c_9
        refine lv_iconst (v := nI 0) hx hb dX3_isBraced_49 (by decide) ?_
        refine lv_icmp_eq (tgt := 55) hx hb dX3_isBraced_50 (by decide) (fun c_10 => ?_) (fun c_10 => ?_)
        · exact absurd c_10 (by decide)
        · have c_10 := zne (i := 1) (j := 0) c_10
          have hz := zbr_false (rd := rd) (nv := nv) (s := t) (i := i) (n := n) (by simp [zbok, *]) (by omega)
          refine lv_iconst (v := nI 0) hx hb dX3_isBraced_53 (by decide) ?_
          exact z_zret Z () (by decide) (by rw [hz]; rfl) hP hS dX3_isBraced_54
      · have c_9 : ¬ (((t >>> ((nI i) &&& 31)) &&& 1) = 0) := c_9
        refine lv_iconst (v := nI 1) hx hb dX3_isBraced_45 (by decide) ?_
        refine lv_goto (tgt := 50) hx hb dX3_isBraced_46 (by decide) ?_
        refine lv_icmp_eq (tgt := 55) hx hb dX3_isBraced_50 (by decide) (fun c_11 => ?_) (fun c_11 => ?_)
        · have c_11 := zeq (i := 1) (j := 1) (by decide) (by decide) c_11
          refine lv_iinc (v := nI (i + 1)) (lv' := [(2, .int (nI (i + 1))), (3, .int (nI 1)), (0, .ref r), (1, .int t)]) hx hb dX3_isBraced_55 hl (k := 1) rfl (z_inc _ 1) (by decide) rfl (fun ls hl => ?_)
          refine lv_goto (tgt := 2) hx hb dX3_isBraced_58 (by decide) ?_
          have hl : lv_has ls 4 [(2, .int (nI (i + 1))), (0, .ref r), (1, .int t)] := lv_sub hl [0, 2, 3] rfl
          exact ih_1 _ _ _ (by omega) ⟨hP, hD, hS, hl, (by simp [zbr, *, zbok])⟩
        · exact absurd c_11 (by decide)

theorem dX3_debtors_0 : decode cX3_debtors 0 = .ok (.iconst 0, 1) := by decide +kernel
theorem dX3_debtors_1 : decode cX3_debtors 1 = .ok (.istore_n 2, 1) := by decide +kernel
theorem dX3_debtors_2 : decode cX3_debtors 2 = .ok (.iconst 0, 1) := by decide +kernel
theorem dX3_debtors_3 : decode cX3_debtors 3 = .ok (.istore_n 3, 1) := by decide +kernel
theorem dX3_debtors_4 : decode cX3_debtors 4 = .ok (.iload_n 3, 1) := by decide +kernel
theorem dX3_debtors_5 : decode cX3_debtors 5 = .ok (.aload_n 0, 1) := by decide +kernel
theorem dX3_debtors_6 : decode cX3_debtors 6 = .ok (.getfield 31, 3) := by decide +kernel
theorem dX3_debtors_9 : decode cX3_debtors 9 = .ok (.if_icmp .ge 23, 3) := by decide +kernel
theorem dX3_debtors_12 : decode cX3_debtors 12 = .ok (.aload_n 1, 1) := by decide +kernel
theorem dX3_debtors_13 : decode cX3_debtors 13 = .ok (.iload_n 3, 1) := by decide +kernel
theorem dX3_debtors_14 : decode cX3_debtors 14 = .ok (.invokevirtual 54, 3) := by decide +kernel
theorem dX3_debtors_17 : decode cX3_debtors 17 = .ok (.ifCond .ge 9, 3) := by decide +kernel
theorem dX3_debtors_20 : decode cX3_debtors 20 = .ok (.iload_n 2, 1) := by decide +kernel
theorem dX3_debtors_21 : decode cX3_debtors 21 = .ok (.iconst 1, 1) := by decide +kernel
theorem dX3_debtors_22 : decode cX3_debtors 22 = .ok (.iload_n 3, 1) := by decide +kernel
theorem dX3_debtors_23 : decode cX3_debtors 23 = .ok (.ishl, 1) := by decide +kernel
theorem dX3_debtors_24 : decode cX3_debtors 24 = .ok (.ior, 1) := by decide +kernel
theorem dX3_debtors_25 : decode cX3_debtors 25 = .ok (.istore_n 2, 1) := by decide +kernel
theorem dX3_debtors_26 : decode cX3_debtors 26 = .ok (.iinc 3 1, 3) := by decide +kernel
theorem dX3_debtors_29 : decode cX3_debtors 29 = .ok (.goto (-25), 3) := by decide +kernel
theorem dX3_debtors_32 : decode cX3_debtors 32 = .ok (.iload_n 2, 1) := by decide +kernel
theorem dX3_debtors_33 : decode cX3_debtors 33 = .ok (.ireturn, 1) := by decide +kernel
theorem zd_X3_debtors : yX3_debtors.cls ≠ "java/lang/invoke/MethodHandle" ∧ yX3_debtors.cls ≠ "java/lang/invoke/VarHandle" ∧ (parseMethodDescriptor yX3_debtors.desc).map (fun d => d.parameters.length) = some 1 := by decide +kernel
set_option maxHeartbeats 4000000 in
set_option maxRecDepth 100000 in
theorem zc_X3_debtors (l : Launch) (D : va_G) (cI cZ : ClassId) (r : Nat) (ro : Nat) (rn : Nat) (rr : Nat) (rt : Int32) (fr : Int32) (pr : Int32) (n : Nat) (m : Nat) (a : Nat) (b : Nat) (f : Nat → Int32) (hn : n ≤ 5) : zI l yX3_debtors cX3_debtors 4 .int 1 21 D cI cZ [.ref r, .ref a] [(r, .inr (3, [.ref ro, .ref rn, .ref rr, .int rt, .int fr, .int pr, .int (nI n), .int (nI m)])), (a, .inr (6, [.ref b])), (b, .inl (cI, 36, .inl f))] (fun (r : Int32) (u : Unit) => r = zdb f n) (fun (u : Unit) => [(r, .inr (3, [.ref ro, .ref rn, .ref rr, .int rt, .int fr, .int pr, .int (nI n), .int (nI m)])), (a, .inr (6, [.ref b])), (b, .inl (cI, 36, .inl f))]) := by
  refine zI_of (by decide) (Nat.le_of_ble_eq_true rfl) ?_
  intro pP eE sS mM aA bB mT cC A ls Z hP hD hS hl
  have hx := Z.1
  have hb := Z.2.1
  have hown := Z.2.2.2.2.2.1
  have hts := Z.2.2.2.2.1
  have Z : zAt pP sS mM aA mT cC D cI cZ A "SurpriseTax$Realm" cX3_debtors 4 (some .int) := Z
  have hl : lv_has ls 4 [(0, .ref r), (1, .ref a)] := hl
  obtain ⟨H, hH⟩ : ∃ H, H = sS.heap := ⟨_, rfl⟩
  have hP : va_P D vwCl [(r, .inr (3, [.ref ro, .ref rn, .ref rr, .int rt, .int fr, .int pr, .int (nI n), .int (nI m)])), (a, .inr (6, [.ref b])), (b, .inl (cI, 36, .inl f))] H := by rw [hH]; exact hP
  have hS : va_S A sS.heap H [] := by rw [hH]; exact hS
  rw [← hH]
  clear hH
  obtain ⟨locs, hlo⟩ : ∃ q : List Loc, q = [] := ⟨_, rfl⟩
  rw [← hlo] at hS ⊢
  clear hlo
  refine lv_iconst (v := nI 0) hx hb dX3_debtors_0 (by decide) ?_
  refine lv_istore_n (lv' := [(2, .int (nI 0)), (0, .ref r), (1, .ref a)]) hx hb dX3_debtors_1 rfl hl (by decide) rfl (fun ls hl => ?_)
  refine lv_iconst (v := nI 0) hx hb dX3_debtors_2 (by decide) ?_
  refine lv_istore_n (lv' := [(3, .int (nI 0)), (2, .int (nI 0)), (0, .ref r), (1, .ref a)]) hx hb dX3_debtors_3 rfl hl (by decide) rfl (fun ls hl => ?_)
  have hl : lv_has ls 4 [(3, .int (nI 0)), (2, .int (nI 0)), (0, .ref r), (1, .ref a)] := lv_sub hl [0, 1, 2, 3] rfl
  have e_2 : nI 0 = zdb f 0 := by (first | rfl | (simp [zdb]; done) | (simp_all [zdb]; done))
  have hl : lv_has ls 4 [(3, .int (nI 0)), (2, .int (zdb f 0)), (0, .ref r), (1, .ref a)] := Eq.subst (motive := fun zz_ => lv_has ls 4 [(3, .int (nI 0)), (2, .int zz_), (0, .ref r), (1, .ref a)]) e_2 hl
  refine z_loop (fun i H locs ls => va_P D vwCl [(r, .inr (3, [.ref ro, .ref rn, .ref rr, .int rt, .int fr, .int pr, .int (nI n), .int (nI m)])), (a, .inr (6, [.ref b])), (b, .inl (cI, 36, .inl f))] H ∧ va_D A [(r, .inr (3, [.ref ro, .ref rn, .ref rr, .int rt, .int fr, .int pr, .int (nI n), .int (nI m)])), (a, .inr (6, [.ref b])), (b, .inl (cI, 36, .inl f))] ∧ va_S A sS.heap H locs ∧ lv_has ls 4 [(3, .int (nI i)), (2, .int (zdb f i)), (0, .ref r), (1, .ref a)]) (n) (lo := 0) (by omega) ⟨hP, hD, hS, hl⟩ (fun i hi_i ih_1 H locs ls hI => ?_)
  obtain ⟨hP, hD, hS, hl⟩ := hI
  have hP : va_P D vwCl [(r, .inr (3, [.ref ro, .ref rn, .ref rr, .int rt, .int fr, .int pr, .int (nI n), .int (nI m)])), (a, .inr (6, [.ref b])), (b, .inl (cI, 36, .inl f))] H := hP
  have hD : va_D A [(r, .inr (3, [.ref ro, .ref rn, .ref rr, .int rt, .int fr, .int pr, .int (nI n), .int (nI m)])), (a, .inr (6, [.ref b])), (b, .inl (cI, 36, .inl f))] := hD
  have hl : lv_has ls 4 [(3, .int (nI i)), (2, .int (zdb f i)), (0, .ref r), (1, .ref a)] := hl
  refine lv_iload_n hx hb dX3_debtors_4 rfl (lv_at hl 0 rfl) ?_
  refine lv_aload_n hx hb dX3_debtors_5 rfl (lv_at hl 2 rfl) ?_
  refine z_get (ci := 3) (v := .int (nI n)) Z zin3 hP 0 rfl rfl 6 (by decide) zm78 rfl rfl dX3_debtors_6 ?_
  refine lv_icmp_ge (tgt := 32) hx hb dX3_debtors_9 (by decide) (fun c_3 => ?_) (fun c_3 => ?_)
  · have c_3 := zle (i := n) (j := i) (by omega) (by omega) c_3
    have hE_ : n = i := by omega
    subst hE_
    refine lv_iload_n hx hb dX3_debtors_32 rfl (lv_at hl 1 rfl) ?_
    exact z_iret Z () rfl hP hS dX3_debtors_33
  · have c_3 := znle (i := n) (j := i) (by omega) (by omega) c_3
    refine lv_aload_n hx hb dX3_debtors_12 rfl (lv_at hl 3 rfl) ?_
    refine lv_iload_n hx hb dX3_debtors_13 rfl (lv_at hl 0 rfl) ?_
    refine z_callVi (As := [.int (nI i)]) (rest := []) (ci := 6) (k0 := 0) Z hP hD hS hl.1 (zc_X6_coins l D cI cZ a b f i (by omega)) zm313 zm314 zm315 zm33 zm316 ⟨rfl, zd_X6_coins⟩ ⟨Nat.le_of_ble_eq_true rfl, Nat.le_of_ble_eq_true rfl⟩ ⟨Nat.zero_le _, Nat.zero_le _⟩ [1, 2] rfl (by decide) rfl rfl rfl (fun _ => rfl) rfl (Nat.le_of_ble_eq_true rfl) rfl dX3_debtors_14 (fun r_4 u H locs h_5 hP hD hS => ?_)
    have hP : va_P D vwCl [(r, .inr (3, [.ref ro, .ref rn, .ref rr, .int rt, .int fr, .int pr, .int (nI n), .int (nI m)])), (a, .inr (6, [.ref b])), (b, .inl (cI, 36, .inl f))] H := hP
    have hD : va_D A [(r, .inr (3, [.ref ro, .ref rn, .ref rr, .int rt, .int fr, .int pr, .int (nI n), .int (nI m)])), (a, .inr (6, [.ref b])), (b, .inl (cI, 36, .inl f))] := hD
    have h_5 : r_4 = f (20 + i) := h_5
    subst h_5
    refine lv_if_ge (tgt := 26) hx hb dX3_debtors_17 (by decide) (fun c_6 => ?_) (fun c_6 => ?_)
    · have c_6 : 0 ≤ (f (20 + i)) := c_6
      refine lv_iinc (v := nI (i + 1)) (lv' := [(3, .int (nI (i + 1))), (2, .int (zdb f i)), (0, .ref r), (1, .ref a)]) hx hb dX3_debtors_26 hl (k := 0) rfl (z_inc _ 1) (by decide) rfl (fun ls hl => ?_)
      refine lv_goto (tgt := 4) hx hb dX3_debtors_29 (by decide) ?_
      have hl : lv_has ls 4 [(3, .int (nI (i + 1))), (2, .int (zdb f i)), (0, .ref r), (1, .ref a)] := lv_sub hl [0, 1, 2, 3] rfl
      have e_7 : zdb f i = zdb f (i + 1) := by (first | rfl | (simp [zdb, c_3, c_6]; done) | (simp_all [zdb]; done))
      have hl : lv_has ls 4 [(3, .int (nI (i + 1))), (2, .int (zdb f (i + 1))), (0, .ref r), (1, .ref a)] := Eq.subst (motive := fun zz_ => lv_has ls 4 [(3, .int (nI (i + 1))), (2, .int zz_), (0, .ref r), (1, .ref a)]) e_7 hl
      exact ih_1 _ _ _ (by omega) ⟨hP, hD, hS, hl⟩
    · have c_6 : ¬ (0 ≤ (f (20 + i))) := c_6
      refine lv_iload_n hx hb dX3_debtors_20 rfl (lv_at hl 1 rfl) ?_
      refine lv_iconst (v := nI 1) hx hb dX3_debtors_21 (by decide) ?_
      refine lv_iload_n hx hb dX3_debtors_22 rfl (lv_at hl 0 rfl) ?_
      refine lv_ishl hx hb dX3_debtors_23 ?_
      refine z_top (y := (1 : Int32) <<< ((nI i) &&& 31)) rfl ?_
      refine z_top (y := zbit i) (rfl) ?_
      refine lv_ior hx hb dX3_debtors_24 ?_
      refine z_top (y := (zdb f i) ||| (zbit i)) rfl ?_
      refine lv_istore_n (lv' := [(2, .int ((zdb f i) ||| (zbit i))), (3, .int (nI i)), (0, .ref r), (1, .ref a)]) hx hb dX3_debtors_25 rfl hl (by decide) rfl (fun ls hl => ?_)
      refine lv_iinc (v := nI (i + 1)) (lv' := [(3, .int (nI (i + 1))), (2, .int ((zdb f i) ||| (zbit i))), (0, .ref r), (1, .ref a)]) hx hb dX3_debtors_26 hl (k := 1) rfl (z_inc _ 1) (by decide) rfl (fun ls hl => ?_)
      refine lv_goto (tgt := 4) hx hb dX3_debtors_29 (by decide) ?_
      have hl : lv_has ls 4 [(3, .int (nI (i + 1))), (2, .int ((zdb f i) ||| (zbit i))), (0, .ref r), (1, .ref a)] := lv_sub hl [0, 1, 2, 3] rfl
      have e_8 : (zdb f i) ||| (zbit i) = zdb f (i + 1) := by (first | rfl | (simp [zdb, c_3, c_6]; done) | (simp_all [zdb]; done))
      have hl : lv_has ls 4 [(3, .int (nI (i + 1))), (2, .int (zdb f (i + 1))), (0, .ref r), (1, .ref a)] := Eq.subst (motive := fun zz_ => lv_has ls 4 [(3, .int (nI (i + 1))), (2, .int zz_), (0, .ref r), (1, .ref a)]) e_8 hl
      exact ih_1 _ _ _ (by omega) ⟨hP, hD, hS, hl⟩

theorem dX3_taxOf_0 : decode cX3_taxOf 0 = .ok (.aload_n 0, 1) := by decide +kernel
theorem dX3_taxOf_1 : decode cX3_taxOf 1 = .ok (.getfield 21, 3) := by decide +kernel
theorem dX3_taxOf_4 : decode cX3_taxOf 4 = .ok (.aload_n 1, 1) := by decide +kernel
theorem dX3_taxOf_5 : decode cX3_taxOf 5 = .ok (.iload_n 2, 1) := by decide +kernel
theorem dX3_taxOf_6 : decode cX3_taxOf 6 = .ok (.iload_n 3, 1) := by decide +kernel
theorem dX3_taxOf_7 : decode cX3_taxOf 7 = .ok (.aload_n 0, 1) := by decide +kernel
theorem dX3_taxOf_8 : decode cX3_taxOf 8 = .ok (.getfield 25, 3) := by decide +kernel
theorem dX3_taxOf_11 : decode cX3_taxOf 11 = .ok (.invokevirtual 59, 3) := by decide +kernel
theorem dX3_taxOf_14 : decode cX3_taxOf 14 = .ok (.imul, 1) := by decide +kernel
theorem dX3_taxOf_15 : decode cX3_taxOf 15 = .ok (.ireturn, 1) := by decide +kernel
theorem zd_X3_taxOf : yX3_taxOf.cls ≠ "java/lang/invoke/MethodHandle" ∧ yX3_taxOf.cls ≠ "java/lang/invoke/VarHandle" ∧ (parseMethodDescriptor yX3_taxOf.desc).map (fun d => d.parameters.length) = some 3 := by decide +kernel
set_option maxHeartbeats 4000000 in
set_option maxRecDepth 100000 in
theorem zc_X3_taxOf (l : Launch) (D : va_G) (cI cZ : ClassId) (r : Nat) (ro : Nat) (rn : Nat) (rr : Nat) (rt : Int32) (fr : Int32) (pr : Int32) (n : Nat) (m : Nat) (a : Nat) (b : Nat) (f : Nat → Int32) (p : Nat) (k : Nat) (hp : p < 5) (hk : k < 4) : zI l yX3_taxOf cX3_taxOf 4 .int 2 38 D cI cZ [.ref r, .ref a, .int (nI p), .int (nI k)] [(r, .inr (3, [.ref ro, .ref rn, .ref rr, .int rt, .int fr, .int pr, .int (nI n), .int (nI m)])), (a, .inr (6, [.ref b])), (b, .inl (cI, 36, .inl f))] (fun (r : Int32) (u : Unit) => r = ztax f rt fr p k) (fun (u : Unit) => [(r, .inr (3, [.ref ro, .ref rn, .ref rr, .int rt, .int fr, .int pr, .int (nI n), .int (nI m)])), (a, .inr (6, [.ref b])), (b, .inl (cI, 36, .inl f))]) := by
  refine zI_of (by decide) (Nat.le_of_ble_eq_true rfl) ?_
  intro pP eE sS mM aA bB mT cC A ls Z hP hD hS hl
  have hx := Z.1
  have hb := Z.2.1
  have hown := Z.2.2.2.2.2.1
  have hts := Z.2.2.2.2.1
  have Z : zAt pP sS mM aA mT cC D cI cZ A "SurpriseTax$Realm" cX3_taxOf 4 (some .int) := Z
  have hl : lv_has ls 4 [(0, .ref r), (1, .ref a), (2, .int (nI p)), (3, .int (nI k))] := hl
  obtain ⟨H, hH⟩ : ∃ H, H = sS.heap := ⟨_, rfl⟩
  have hP : va_P D vwCl [(r, .inr (3, [.ref ro, .ref rn, .ref rr, .int rt, .int fr, .int pr, .int (nI n), .int (nI m)])), (a, .inr (6, [.ref b])), (b, .inl (cI, 36, .inl f))] H := by rw [hH]; exact hP
  have hS : va_S A sS.heap H [] := by rw [hH]; exact hS
  rw [← hH]
  clear hH
  obtain ⟨locs, hlo⟩ : ∃ q : List Loc, q = [] := ⟨_, rfl⟩
  rw [← hlo] at hS ⊢
  clear hlo
  refine lv_aload_n hx hb dX3_taxOf_0 rfl (lv_at hl 0 rfl) ?_
  refine z_get (ci := 3) (v := .int rt) Z zin3 hP 0 rfl rfl 3 (by decide) zm75 rfl rfl dX3_taxOf_1 ?_
  refine lv_aload_n hx hb dX3_taxOf_4 rfl (lv_at hl 1 rfl) ?_
  refine lv_iload_n hx hb dX3_taxOf_5 rfl (lv_at hl 2 rfl) ?_
  refine lv_iload_n hx hb dX3_taxOf_6 rfl (lv_at hl 3 rfl) ?_
  refine lv_aload_n hx hb dX3_taxOf_7 rfl (lv_at hl 0 rfl) ?_
  refine z_get (ci := 3) (v := .int fr) Z zin3 hP 0 rfl rfl 4 (by decide) zm76 rfl rfl dX3_taxOf_8 ?_
  refine z_callVi (As := [.int (nI p), .int (nI k), .int fr]) (rest := [.int rt]) (ci := 6) (k0 := 0) Z hP hD hS hl.1 (zc_X6_surprise l D cI cZ a b f p k fr (by omega) (by omega)) zm395 zm396 zm397 zm33 zm398 ⟨rfl, zd_X6_surprise⟩ ⟨Nat.le_of_ble_eq_true rfl, Nat.le_of_ble_eq_true rfl⟩ ⟨Nat.zero_le _, Nat.zero_le _⟩ [1, 2] rfl (by decide) rfl rfl rfl (fun _ => rfl) rfl (Nat.le_of_ble_eq_true rfl) rfl dX3_taxOf_11 (fun r_1 u H locs h_2 hP hD hS => ?_)
  have hP : va_P D vwCl [(r, .inr (3, [.ref ro, .ref rn, .ref rr, .int rt, .int fr, .int pr, .int (nI n), .int (nI m)])), (a, .inr (6, [.ref b])), (b, .inl (cI, 36, .inl f))] H := hP
  have hD : va_D A [(r, .inr (3, [.ref ro, .ref rn, .ref rr, .int rt, .int fr, .int pr, .int (nI n), .int (nI m)])), (a, .inr (6, [.ref b])), (b, .inl (cI, 36, .inl f))] := hD
  have h_2 : r_1 = zsu (f (p * 4 + k)) (f (25 + p)) (f (30 + p)) (nI k) fr := h_2
  subst h_2
  refine lv_imul hx hb dX3_taxOf_14 ?_
  refine z_top (y := rt * (zsu (f (p * 4 + k)) (f (25 + p)) (f (30 + p)) (nI k) fr)) rfl ?_
  exact z_iret Z () (by (first | rfl | (simp []; done) | (simp_all []; done))) hP hS dX3_taxOf_15

theorem dX3_allCanPay_0 : decode cX3_allCanPay 0 = .ok (.iconst 0, 1) := by decide +kernel
theorem dX3_allCanPay_1 : decode cX3_allCanPay 1 = .ok (.istore 5, 2) := by decide +kernel
theorem dX3_allCanPay_3 : decode cX3_allCanPay 3 = .ok (.iload 5, 2) := by decide +kernel
theorem dX3_allCanPay_5 : decode cX3_allCanPay 5 = .ok (.aload_n 0, 1) := by decide +kernel
theorem dX3_allCanPay_6 : decode cX3_allCanPay 6 = .ok (.getfield 31, 3) := by decide +kernel
theorem dX3_allCanPay_9 : decode cX3_allCanPay 9 = .ok (.if_icmp .ge 35, 3) := by decide +kernel
theorem dX3_allCanPay_12 : decode cX3_allCanPay 12 = .ok (.iload_n 3, 1) := by decide +kernel
theorem dX3_allCanPay_13 : decode cX3_allCanPay 13 = .ok (.aload_n 1, 1) := by decide +kernel
theorem dX3_allCanPay_14 : decode cX3_allCanPay 14 = .ok (.iload 5, 2) := by decide +kernel
theorem dX3_allCanPay_16 : decode cX3_allCanPay 16 = .ok (.iload_n 2, 1) := by decide +kernel
theorem dX3_allCanPay_17 : decode cX3_allCanPay 17 = .ok (.iload 4, 2) := by decide +kernel
theorem dX3_allCanPay_19 : decode cX3_allCanPay 19 = .ok (.invokevirtual 59, 3) := by decide +kernel
theorem dX3_allCanPay_22 : decode cX3_allCanPay 22 = .ok (.imul, 1) := by decide +kernel
theorem dX3_allCanPay_23 : decode cX3_allCanPay 23 = .ok (.istore 6, 2) := by decide +kernel
theorem dX3_allCanPay_25 : decode cX3_allCanPay 25 = .ok (.aload_n 1, 1) := by decide +kernel
theorem dX3_allCanPay_26 : decode cX3_allCanPay 26 = .ok (.iload 5, 2) := by decide +kernel
theorem dX3_allCanPay_28 : decode cX3_allCanPay 28 = .ok (.invokevirtual 54, 3) := by decide +kernel
theorem dX3_allCanPay_31 : decode cX3_allCanPay 31 = .ok (.iload 6, 2) := by decide +kernel
theorem dX3_allCanPay_33 : decode cX3_allCanPay 33 = .ok (.if_icmp .ge 5, 3) := by decide +kernel
theorem dX3_allCanPay_36 : decode cX3_allCanPay 36 = .ok (.iconst 0, 1) := by decide +kernel
theorem dX3_allCanPay_37 : decode cX3_allCanPay 37 = .ok (.ireturn, 1) := by decide +kernel
theorem dX3_allCanPay_38 : decode cX3_allCanPay 38 = .ok (.iinc 5 1, 3) := by decide +kernel
theorem dX3_allCanPay_41 : decode cX3_allCanPay 41 = .ok (.goto (-38), 3) := by decide +kernel
theorem dX3_allCanPay_44 : decode cX3_allCanPay 44 = .ok (.iconst 1, 1) := by decide +kernel
theorem dX3_allCanPay_45 : decode cX3_allCanPay 45 = .ok (.ireturn, 1) := by decide +kernel
theorem zd_X3_allCanPay : yX3_allCanPay.cls ≠ "java/lang/invoke/MethodHandle" ∧ yX3_allCanPay.cls ≠ "java/lang/invoke/VarHandle" ∧ (parseMethodDescriptor yX3_allCanPay.desc).map (fun d => d.parameters.length) = some 4 := by decide +kernel
set_option maxHeartbeats 4000000 in
set_option maxRecDepth 100000 in
theorem zc_X3_allCanPay (l : Launch) (D : va_G) (cI cZ : ClassId) (r : Nat) (ro : Nat) (rn : Nat) (rr : Nat) (rt : Int32) (fr : Int32) (pr : Int32) (n : Nat) (m : Nat) (a : Nat) (b : Nat) (f : Nat → Int32) (k : Nat) (u1 : Int32) (u2 : Int32) (hn : n ≤ 5) (hk : k < 4) : zI l yX3_allCanPay cX3_allCanPay 7 .boolean 2 38 D cI cZ [.ref r, .ref a, .int (nI k), .int u1, .int u2] [(r, .inr (3, [.ref ro, .ref rn, .ref rr, .int rt, .int fr, .int pr, .int (nI n), .int (nI m)])), (a, .inr (6, [.ref b])), (b, .inl (cI, 36, .inl f))] (fun (r : Int32) (u : Unit) => r = if zac f u1 u2 k n = true then 1 else 0) (fun (u : Unit) => [(r, .inr (3, [.ref ro, .ref rn, .ref rr, .int rt, .int fr, .int pr, .int (nI n), .int (nI m)])), (a, .inr (6, [.ref b])), (b, .inl (cI, 36, .inl f))]) := by
  refine zI_of (by decide) (Nat.le_of_ble_eq_true rfl) ?_
  intro pP eE sS mM aA bB mT cC A ls Z hP hD hS hl
  have hx := Z.1
  have hb := Z.2.1
  have hown := Z.2.2.2.2.2.1
  have hts := Z.2.2.2.2.1
  have Z : zAt pP sS mM aA mT cC D cI cZ A "SurpriseTax$Realm" cX3_allCanPay 7 (some .boolean) := Z
  have hl : lv_has ls 7 [(0, .ref r), (1, .ref a), (2, .int (nI k)), (3, .int u1), (4, .int u2)] := hl
  obtain ⟨H, hH⟩ : ∃ H, H = sS.heap := ⟨_, rfl⟩
  have hP : va_P D vwCl [(r, .inr (3, [.ref ro, .ref rn, .ref rr, .int rt, .int fr, .int pr, .int (nI n), .int (nI m)])), (a, .inr (6, [.ref b])), (b, .inl (cI, 36, .inl f))] H := by rw [hH]; exact hP
  have hS : va_S A sS.heap H [] := by rw [hH]; exact hS
  rw [← hH]
  clear hH
  obtain ⟨locs, hlo⟩ : ∃ q : List Loc, q = [] := ⟨_, rfl⟩
  rw [← hlo] at hS ⊢
  clear hlo
  refine lv_iconst (v := nI 0) hx hb dX3_allCanPay_0 (by decide) ?_
  refine lv_istore (lv' := [(5, .int (nI 0)), (0, .ref r), (1, .ref a), (2, .int (nI k)), (3, .int u1), (4, .int u2)]) hx hb dX3_allCanPay_1 hl (by decide) rfl (fun ls hl => ?_)
  have hl : lv_has ls 7 [(5, .int (nI 0)), (0, .ref r), (1, .ref a), (2, .int (nI k)), (3, .int u1), (4, .int u2)] := lv_sub hl [0, 1, 2, 3, 4, 5] rfl
  refine z_loop (fun i H locs ls => va_P D vwCl [(r, .inr (3, [.ref ro, .ref rn, .ref rr, .int rt, .int fr, .int pr, .int (nI n), .int (nI m)])), (a, .inr (6, [.ref b])), (b, .inl (cI, 36, .inl f))] H ∧ va_D A [(r, .inr (3, [.ref ro, .ref rn, .ref rr, .int rt, .int fr, .int pr, .int (nI n), .int (nI m)])), (a, .inr (6, [.ref b])), (b, .inl (cI, 36, .inl f))] ∧ va_S A sS.heap H locs ∧ lv_has ls 7 [(5, .int (nI i)), (0, .ref r), (1, .ref a), (2, .int (nI k)), (3, .int u1), (4, .int u2)] ∧ (zac f u1 u2 k i = true)) (n) (lo := 0) (by omega) ⟨hP, hD, hS, hl, (by rfl)⟩ (fun i hi_i ih_1 H locs ls hI => ?_)
  obtain ⟨hP, hD, hS, hl, hv3_0⟩ := hI
  have hv3_0 : zac f u1 u2 k i = true := hv3_0
  have hP : va_P D vwCl [(r, .inr (3, [.ref ro, .ref rn, .ref rr, .int rt, .int fr, .int pr, .int (nI n), .int (nI m)])), (a, .inr (6, [.ref b])), (b, .inl (cI, 36, .inl f))] H := hP
  have hD : va_D A [(r, .inr (3, [.ref ro, .ref rn, .ref rr, .int rt, .int fr, .int pr, .int (nI n), .int (nI m)])), (a, .inr (6, [.ref b])), (b, .inl (cI, 36, .inl f))] := hD
  have hl : lv_has ls 7 [(5, .int (nI i)), (0, .ref r), (1, .ref a), (2, .int (nI k)), (3, .int u1), (4, .int u2)] := hl
  refine lv_iload hx hb dX3_allCanPay_3 (lv_at hl 0 rfl) ?_
  refine lv_aload_n hx hb dX3_allCanPay_5 rfl (lv_at hl 1 rfl) ?_
  refine z_get (ci := 3) (v := .int (nI n)) Z zin3 hP 0 rfl rfl 6 (by decide) zm78 rfl rfl dX3_allCanPay_6 ?_
  refine lv_icmp_ge (tgt := 44) hx hb dX3_allCanPay_9 (by decide) (fun c_2 => ?_) (fun c_2 => ?_)
  · have c_2 := zle (i := n) (j := i) (by omega) (by omega) c_2
    have hE_ : n = i := by omega
    subst hE_
    refine lv_iconst (v := nI 1) hx hb dX3_allCanPay_44 (by decide) ?_
    exact z_zret Z () (by decide) (by rw [hv3_0]; rfl) hP hS dX3_allCanPay_45
  · have c_2 := znle (i := n) (j := i) (by omega) (by omega) c_2
    refine lv_iload_n hx hb dX3_allCanPay_12 rfl (lv_at hl 4 rfl) ?_
    refine lv_aload_n hx hb dX3_allCanPay_13 rfl (lv_at hl 2 rfl) ?_
    refine lv_iload hx hb dX3_allCanPay_14 (lv_at hl 0 rfl) ?_
    refine lv_iload_n hx hb dX3_allCanPay_16 rfl (lv_at hl 3 rfl) ?_
    refine lv_iload hx hb dX3_allCanPay_17 (lv_at hl 5 rfl) ?_
    refine z_callVi (As := [.int (nI i), .int (nI k), .int u2]) (rest := [.int u1]) (ci := 6) (k0 := 0) Z hP hD hS hl.1 (zc_X6_surprise l D cI cZ a b f i k u2 (by omega) (by omega)) zm395 zm396 zm397 zm33 zm398 ⟨rfl, zd_X6_surprise⟩ ⟨Nat.le_of_ble_eq_true rfl, Nat.le_of_ble_eq_true rfl⟩ ⟨Nat.zero_le _, Nat.zero_le _⟩ [1, 2] rfl (by decide) rfl rfl rfl (fun _ => rfl) rfl (Nat.le_of_ble_eq_true rfl) rfl dX3_allCanPay_19 (fun r_3 u H locs h_4 hP hD hS => ?_)
    have hP : va_P D vwCl [(r, .inr (3, [.ref ro, .ref rn, .ref rr, .int rt, .int fr, .int pr, .int (nI n), .int (nI m)])), (a, .inr (6, [.ref b])), (b, .inl (cI, 36, .inl f))] H := hP
    have hD : va_D A [(r, .inr (3, [.ref ro, .ref rn, .ref rr, .int rt, .int fr, .int pr, .int (nI n), .int (nI m)])), (a, .inr (6, [.ref b])), (b, .inl (cI, 36, .inl f))] := hD
    have h_4 : r_3 = zsu (f (i * 4 + k)) (f (25 + i)) (f (30 + i)) (nI k) u2 := h_4
    subst h_4
    refine lv_imul hx hb dX3_allCanPay_22 ?_
    refine z_top (y := u1 * (zsu (f (i * 4 + k)) (f (25 + i)) (f (30 + i)) (nI k) u2)) rfl ?_
    refine z_top (y := ztax f u1 u2 i k) (rfl) ?_
    refine lv_istore (lv' := [(6, .int (ztax f u1 u2 i k)), (5, .int (nI i)), (0, .ref r), (1, .ref a), (2, .int (nI k)), (3, .int u1), (4, .int u2)]) hx hb dX3_allCanPay_23 hl (by decide) rfl (fun ls hl => ?_)
    refine lv_aload_n hx hb dX3_allCanPay_25 rfl (lv_at hl 3 rfl) ?_
    refine lv_iload hx hb dX3_allCanPay_26 (lv_at hl 1 rfl) ?_
    refine z_callVi (As := [.int (nI i)]) (rest := []) (ci := 6) (k0 := 0) Z hP hD hS hl.1 (zc_X6_coins l D cI cZ a b f i (by omega)) zm313 zm314 zm315 zm33 zm316 ⟨rfl, zd_X6_coins⟩ ⟨Nat.le_of_ble_eq_true rfl, Nat.le_of_ble_eq_true rfl⟩ ⟨Nat.zero_le _, Nat.zero_le _⟩ [1, 2] rfl (by decide) rfl rfl rfl (fun _ => rfl) rfl (Nat.le_of_ble_eq_true rfl) rfl dX3_allCanPay_28 (fun r_5 u H locs h_6 hP hD hS => ?_)
    have hP : va_P D vwCl [(r, .inr (3, [.ref ro, .ref rn, .ref rr, .int rt, .int fr, .int pr, .int (nI n), .int (nI m)])), (a, .inr (6, [.ref b])), (b, .inl (cI, 36, .inl f))] H := hP
    have hD : va_D A [(r, .inr (3, [.ref ro, .ref rn, .ref rr, .int rt, .int fr, .int pr, .int (nI n), .int (nI m)])), (a, .inr (6, [.ref b])), (b, .inl (cI, 36, .inl f))] := hD
    have h_6 : r_5 = f (20 + i) := h_6
    subst h_6
    refine lv_iload hx hb dX3_allCanPay_31 (lv_at hl 0 rfl) ?_
    refine lv_icmp_ge (tgt := 38) hx hb dX3_allCanPay_33 (by decide) (fun c_7 => ?_) (fun c_7 => ?_)
    · have c_7 : (ztax f u1 u2 i k) ≤ (f (20 + i)) := c_7
      refine lv_iinc (v := nI (i + 1)) (lv' := [(5, .int (nI (i + 1))), (6, .int (ztax f u1 u2 i k)), (0, .ref r), (1, .ref a), (2, .int (nI k)), (3, .int u1), (4, .int u2)]) hx hb dX3_allCanPay_38 hl (k := 1) rfl (z_inc _ 1) (by decide) rfl (fun ls hl => ?_)
      refine lv_goto (tgt := 3) hx hb dX3_allCanPay_41 (by decide) ?_
      have hl : lv_has ls 7 [(5, .int (nI (i + 1))), (0, .ref r), (1, .ref a), (2, .int (nI k)), (3, .int u1), (4, .int u2)] := lv_sub hl [0, 2, 3, 4, 5, 6] rfl
      exact ih_1 _ _ _ (by omega) ⟨hP, hD, hS, hl, (by simp [zac, *])⟩
    · have c_7 : ¬ ((ztax f u1 u2 i k) ≤ (f (20 + i))) := c_7
      refine lv_iconst (v := nI 0) hx hb dX3_allCanPay_36 (by decide) ?_
      exact z_zret Z () (by decide) (by rw [zac_false (by assumption) (by omega)]; rfl) hP hS dX3_allCanPay_37

theorem dX3_meanTenfold_0 : decode cX3_meanTenfold 0 = .ok (.iconst 0, 1) := by decide +kernel
theorem dX3_meanTenfold_1 : decode cX3_meanTenfold 1 = .ok (.istore_n 3, 1) := by decide +kernel
theorem dX3_meanTenfold_2 : decode cX3_meanTenfold 2 = .ok (.iconst 0, 1) := by decide +kernel
theorem dX3_meanTenfold_3 : decode cX3_meanTenfold 3 = .ok (.istore 4, 2) := by decide +kernel
theorem dX3_meanTenfold_5 : decode cX3_meanTenfold 5 = .ok (.iload 4, 2) := by decide +kernel
theorem dX3_meanTenfold_7 : decode cX3_meanTenfold 7 = .ok (.iconst 4, 1) := by decide +kernel
theorem dX3_meanTenfold_8 : decode cX3_meanTenfold 8 = .ok (.if_icmp .ge 28, 3) := by decide +kernel
theorem dX3_meanTenfold_11 : decode cX3_meanTenfold 11 = .ok (.iload_n 3, 1) := by decide +kernel
theorem dX3_meanTenfold_12 : decode cX3_meanTenfold 12 = .ok (.aload_n 0, 1) := by decide +kernel
theorem dX3_meanTenfold_13 : decode cX3_meanTenfold 13 = .ok (.getfield 9, 3) := by decide +kernel
theorem dX3_meanTenfold_16 : decode cX3_meanTenfold 16 = .ok (.iload 4, 2) := by decide +kernel
theorem dX3_meanTenfold_18 : decode cX3_meanTenfold 18 = .ok (.iaload, 1) := by decide +kernel
theorem dX3_meanTenfold_19 : decode cX3_meanTenfold 19 = .ok (.aload_n 0, 1) := by decide +kernel
theorem dX3_meanTenfold_20 : decode cX3_meanTenfold 20 = .ok (.aload_n 1, 1) := by decide +kernel
theorem dX3_meanTenfold_21 : decode cX3_meanTenfold 21 = .ok (.iload_n 2, 1) := by decide +kernel
theorem dX3_meanTenfold_22 : decode cX3_meanTenfold 22 = .ok (.iload 4, 2) := by decide +kernel
theorem dX3_meanTenfold_24 : decode cX3_meanTenfold 24 = .ok (.invokevirtual 63, 3) := by decide +kernel
theorem dX3_meanTenfold_27 : decode cX3_meanTenfold 27 = .ok (.imul, 1) := by decide +kernel
theorem dX3_meanTenfold_28 : decode cX3_meanTenfold 28 = .ok (.iadd, 1) := by decide +kernel
theorem dX3_meanTenfold_29 : decode cX3_meanTenfold 29 = .ok (.istore_n 3, 1) := by decide +kernel
theorem dX3_meanTenfold_30 : decode cX3_meanTenfold 30 = .ok (.iinc 4 1, 3) := by decide +kernel
theorem dX3_meanTenfold_33 : decode cX3_meanTenfold 33 = .ok (.goto (-28), 3) := by decide +kernel
theorem dX3_meanTenfold_36 : decode cX3_meanTenfold 36 = .ok (.iload_n 3, 1) := by decide +kernel
theorem dX3_meanTenfold_37 : decode cX3_meanTenfold 37 = .ok (.ireturn, 1) := by decide +kernel
theorem zd_X3_meanTenfold : yX3_meanTenfold.cls ≠ "java/lang/invoke/MethodHandle" ∧ yX3_meanTenfold.cls ≠ "java/lang/invoke/VarHandle" ∧ (parseMethodDescriptor yX3_meanTenfold.desc).map (fun d => d.parameters.length) = some 2 := by decide +kernel
set_option maxHeartbeats 4000000 in
set_option maxRecDepth 100000 in
theorem zc_X3_meanTenfold (l : Launch) (D : va_G) (cI cZ : ClassId) (r : Nat) (ro : Nat) (rn : Nat) (rr : Nat) (rt : Int32) (fr : Int32) (pr : Int32) (n : Nat) (m : Nat) (od : Nat → Int32) (a : Nat) (b : Nat) (f : Nat → Int32) (p : Nat) (hp : p < 5) : zI l yX3_meanTenfold cX3_meanTenfold 5 .int 3 61 D cI cZ [.ref r, .ref a, .int (nI p)] [(r, .inr (3, [.ref ro, .ref rn, .ref rr, .int rt, .int fr, .int pr, .int (nI n), .int (nI m)])), (ro, .inl (cI, 4, .inl od)), (a, .inr (6, [.ref b])), (b, .inl (cI, 36, .inl f))] (fun (r : Int32) (u : Unit) => r = zmt f od rt fr p 4) (fun (u : Unit) => [(r, .inr (3, [.ref ro, .ref rn, .ref rr, .int rt, .int fr, .int pr, .int (nI n), .int (nI m)])), (ro, .inl (cI, 4, .inl od)), (a, .inr (6, [.ref b])), (b, .inl (cI, 36, .inl f))]) := by
  refine zI_of (by decide) (Nat.le_of_ble_eq_true rfl) ?_
  intro pP eE sS mM aA bB mT cC A ls Z hP hD hS hl
  have hx := Z.1
  have hb := Z.2.1
  have hown := Z.2.2.2.2.2.1
  have hts := Z.2.2.2.2.1
  have Z : zAt pP sS mM aA mT cC D cI cZ A "SurpriseTax$Realm" cX3_meanTenfold 5 (some .int) := Z
  have hl : lv_has ls 5 [(0, .ref r), (1, .ref a), (2, .int (nI p))] := hl
  obtain ⟨H, hH⟩ : ∃ H, H = sS.heap := ⟨_, rfl⟩
  have hP : va_P D vwCl [(r, .inr (3, [.ref ro, .ref rn, .ref rr, .int rt, .int fr, .int pr, .int (nI n), .int (nI m)])), (ro, .inl (cI, 4, .inl od)), (a, .inr (6, [.ref b])), (b, .inl (cI, 36, .inl f))] H := by rw [hH]; exact hP
  have hS : va_S A sS.heap H [] := by rw [hH]; exact hS
  rw [← hH]
  clear hH
  obtain ⟨locs, hlo⟩ : ∃ q : List Loc, q = [] := ⟨_, rfl⟩
  rw [← hlo] at hS ⊢
  clear hlo
  refine lv_iconst (v := nI 0) hx hb dX3_meanTenfold_0 (by decide) ?_
  refine lv_istore_n (lv' := [(3, .int (nI 0)), (0, .ref r), (1, .ref a), (2, .int (nI p))]) hx hb dX3_meanTenfold_1 rfl hl (by decide) rfl (fun ls hl => ?_)
  refine lv_iconst (v := nI 0) hx hb dX3_meanTenfold_2 (by decide) ?_
  refine lv_istore (lv' := [(4, .int (nI 0)), (3, .int (nI 0)), (0, .ref r), (1, .ref a), (2, .int (nI p))]) hx hb dX3_meanTenfold_3 hl (by decide) rfl (fun ls hl => ?_)
  have hl : lv_has ls 5 [(4, .int (nI 0)), (3, .int (nI 0)), (0, .ref r), (1, .ref a), (2, .int (nI p))] := lv_sub hl [0, 1, 2, 3, 4] rfl
  have e_2 : nI 0 = zmt f od rt fr p 0 := by (first | rfl | (simp []; done) | (simp_all []; done))
  have hl : lv_has ls 5 [(4, .int (nI 0)), (3, .int (zmt f od rt fr p 0)), (0, .ref r), (1, .ref a), (2, .int (nI p))] := Eq.subst (motive := fun zz_ => lv_has ls 5 [(4, .int (nI 0)), (3, .int zz_), (0, .ref r), (1, .ref a), (2, .int (nI p))]) e_2 hl
  refine z_loop (fun k H locs ls => va_P D vwCl [(r, .inr (3, [.ref ro, .ref rn, .ref rr, .int rt, .int fr, .int pr, .int (nI n), .int (nI m)])), (ro, .inl (cI, 4, .inl od)), (a, .inr (6, [.ref b])), (b, .inl (cI, 36, .inl f))] H ∧ va_D A [(r, .inr (3, [.ref ro, .ref rn, .ref rr, .int rt, .int fr, .int pr, .int (nI n), .int (nI m)])), (ro, .inl (cI, 4, .inl od)), (a, .inr (6, [.ref b])), (b, .inl (cI, 36, .inl f))] ∧ va_S A sS.heap H locs ∧ lv_has ls 5 [(4, .int (nI k)), (3, .int (zmt f od rt fr p k)), (0, .ref r), (1, .ref a), (2, .int (nI p))]) (4) (lo := 0) (by omega) ⟨hP, hD, hS, hl⟩ (fun k hi_k ih_1 H locs ls hI => ?_)
  obtain ⟨hP, hD, hS, hl⟩ := hI
  have hP : va_P D vwCl [(r, .inr (3, [.ref ro, .ref rn, .ref rr, .int rt, .int fr, .int pr, .int (nI n), .int (nI m)])), (ro, .inl (cI, 4, .inl od)), (a, .inr (6, [.ref b])), (b, .inl (cI, 36, .inl f))] H := hP
  have hD : va_D A [(r, .inr (3, [.ref ro, .ref rn, .ref rr, .int rt, .int fr, .int pr, .int (nI n), .int (nI m)])), (ro, .inl (cI, 4, .inl od)), (a, .inr (6, [.ref b])), (b, .inl (cI, 36, .inl f))] := hD
  have hl : lv_has ls 5 [(4, .int (nI k)), (3, .int (zmt f od rt fr p k)), (0, .ref r), (1, .ref a), (2, .int (nI p))] := hl
  refine lv_iload hx hb dX3_meanTenfold_5 (lv_at hl 0 rfl) ?_
  refine lv_iconst (v := nI 4) hx hb dX3_meanTenfold_7 (by decide) ?_
  refine lv_icmp_ge (tgt := 36) hx hb dX3_meanTenfold_8 (by decide) (fun c_3 => ?_) (fun c_3 => ?_)
  · have c_3 := zle (i := 4) (j := k) (by decide) (by omega) c_3
    have hE_ : 4 = k := by omega
    subst hE_
    refine lv_iload_n hx hb dX3_meanTenfold_36 rfl (lv_at hl 1 rfl) ?_
    exact z_iret Z () rfl hP hS dX3_meanTenfold_37
  · have c_3 := znle (i := 4) (j := k) (by decide) (by omega) c_3
    refine lv_iload_n hx hb dX3_meanTenfold_11 rfl (lv_at hl 1 rfl) ?_
    refine lv_aload_n hx hb dX3_meanTenfold_12 rfl (lv_at hl 2 rfl) ?_
    refine z_get (ci := 3) (v := .ref ro) Z zin3 hP 0 rfl rfl 0 (by decide) zm72 rfl rfl dX3_meanTenfold_13 ?_
    refine lv_iload hx hb dX3_meanTenfold_16 (lv_at hl 0 rfl) ?_
    refine z_iald (n := 4) (f := od) (j := k) Z hP 1 rfl (by omega) (by decide) dX3_meanTenfold_18 ?_
    refine lv_aload_n hx hb dX3_meanTenfold_19 rfl (lv_at hl 2 rfl) ?_
    refine lv_aload_n hx hb dX3_meanTenfold_20 rfl (lv_at hl 3 rfl) ?_
    refine lv_iload_n hx hb dX3_meanTenfold_21 rfl (lv_at hl 4 rfl) ?_
    refine lv_iload hx hb dX3_meanTenfold_22 (lv_at hl 0 rfl) ?_
    refine z_callVi (As := [.ref a, .int (nI p), .int (nI k)]) (rest := [.int (od k), .int (zmt f od rt fr p k)]) (ci := 3) (k0 := 0) Z hP hD hS hl.1 (zc_X3_taxOf l D cI cZ r ro rn rr rt fr pr n m a b f p k (by omega) (by omega)) zm391 zm392 zm393 zm32 zm394 ⟨rfl, zd_X3_taxOf⟩ ⟨Nat.le_of_ble_eq_true rfl, Nat.le_of_ble_eq_true rfl⟩ ⟨Nat.zero_le _, Nat.zero_le _⟩ [0, 2, 3] rfl (by decide) rfl rfl rfl (fun _ => rfl) rfl (Nat.le_of_ble_eq_true rfl) rfl dX3_meanTenfold_24 (fun r_4 u H locs h_5 hP hD hS => ?_)
    have hP : va_P D vwCl [(r, .inr (3, [.ref ro, .ref rn, .ref rr, .int rt, .int fr, .int pr, .int (nI n), .int (nI m)])), (ro, .inl (cI, 4, .inl od)), (a, .inr (6, [.ref b])), (b, .inl (cI, 36, .inl f))] H := hP
    have hD : va_D A [(r, .inr (3, [.ref ro, .ref rn, .ref rr, .int rt, .int fr, .int pr, .int (nI n), .int (nI m)])), (ro, .inl (cI, 4, .inl od)), (a, .inr (6, [.ref b])), (b, .inl (cI, 36, .inl f))] := hD
    have h_5 : r_4 = ztax f rt fr p k := h_5
    subst h_5
    refine lv_imul hx hb dX3_meanTenfold_27 ?_
    refine z_top (y := (od k) * (ztax f rt fr p k)) rfl ?_
    refine lv_iadd hx hb dX3_meanTenfold_28 ?_
    refine z_top (y := (zmt f od rt fr p k) + ((od k) * (ztax f rt fr p k))) rfl ?_
    refine lv_istore_n (lv' := [(3, .int ((zmt f od rt fr p k) + ((od k) * (ztax f rt fr p k)))), (4, .int (nI k)), (0, .ref r), (1, .ref a), (2, .int (nI p))]) hx hb dX3_meanTenfold_29 rfl hl (by decide) rfl (fun ls hl => ?_)
    refine lv_iinc (v := nI (k + 1)) (lv' := [(4, .int (nI (k + 1))), (3, .int ((zmt f od rt fr p k) + ((od k) * (ztax f rt fr p k)))), (0, .ref r), (1, .ref a), (2, .int (nI p))]) hx hb dX3_meanTenfold_30 hl (k := 1) rfl (z_inc _ 1) (by decide) rfl (fun ls hl => ?_)
    refine lv_goto (tgt := 5) hx hb dX3_meanTenfold_33 (by decide) ?_
    have hl : lv_has ls 5 [(4, .int (nI (k + 1))), (3, .int ((zmt f od rt fr p k) + ((od k) * (ztax f rt fr p k)))), (0, .ref r), (1, .ref a), (2, .int (nI p))] := lv_sub hl [0, 1, 2, 3, 4] rfl
    have e_6 : (zmt f od rt fr p k) + ((od k) * (ztax f rt fr p k)) = zmt f od rt fr p (k + 1) := by (first | rfl | (simp [c_3]; done) | (simp_all []; done))
    have hl : lv_has ls 5 [(4, .int (nI (k + 1))), (3, .int (zmt f od rt fr p (k + 1))), (0, .ref r), (1, .ref a), (2, .int (nI p))] := Eq.subst (motive := fun zz_ => lv_has ls 5 [(4, .int (nI (k + 1))), (3, .int zz_), (0, .ref r), (1, .ref a), (2, .int (nI p))]) e_6 hl
    exact ih_1 _ _ _ (by omega) ⟨hP, hD, hS, hl⟩

theorem dX3_come_0 : decode cX3_come 0 = .ok (.iconst 0, 1) := by decide +kernel
theorem dX3_come_1 : decode cX3_come 1 = .ok (.istore_n 3, 1) := by decide +kernel
theorem dX3_come_2 : decode cX3_come 2 = .ok (.iconst 0, 1) := by decide +kernel
theorem dX3_come_3 : decode cX3_come 3 = .ok (.istore 4, 2) := by decide +kernel
theorem dX3_come_5 : decode cX3_come 5 = .ok (.iload 4, 2) := by decide +kernel
theorem dX3_come_7 : decode cX3_come 7 = .ok (.aload_n 0, 1) := by decide +kernel
theorem dX3_come_8 : decode cX3_come 8 = .ok (.getfield 31, 3) := by decide +kernel
theorem dX3_come_11 : decode cX3_come 11 = .ok (.if_icmp .ge 39, 3) := by decide +kernel
theorem dX3_come_14 : decode cX3_come 14 = .ok (.aload_n 0, 1) := by decide +kernel
theorem dX3_come_15 : decode cX3_come 15 = .ok (.aload_n 1, 1) := by decide +kernel
theorem dX3_come_16 : decode cX3_come 16 = .ok (.iload 4, 2) := by decide +kernel
theorem dX3_come_18 : decode cX3_come 18 = .ok (.iload_n 2, 1) := by decide +kernel
theorem dX3_come_19 : decode cX3_come 19 = .ok (.invokevirtual 63, 3) := by decide +kernel
theorem dX3_come_22 : decode cX3_come 22 = .ok (.istore 5, 2) := by decide +kernel
theorem dX3_come_24 : decode cX3_come 24 = .ok (.iload_n 3, 1) := by decide +kernel
theorem dX3_come_25 : decode cX3_come 25 = .ok (.iload 5, 2) := by decide +kernel
theorem dX3_come_27 : decode cX3_come 27 = .ok (.iadd, 1) := by decide +kernel
theorem dX3_come_28 : decode cX3_come 28 = .ok (.istore_n 3, 1) := by decide +kernel
theorem dX3_come_29 : decode cX3_come 29 = .ok (.aload_n 1, 1) := by decide +kernel
theorem dX3_come_30 : decode cX3_come 30 = .ok (.iload 4, 2) := by decide +kernel
theorem dX3_come_32 : decode cX3_come 32 = .ok (.iload 5, 2) := by decide +kernel
theorem dX3_come_34 : decode cX3_come 34 = .ok (.invokevirtual 67, 3) := by decide +kernel
theorem dX3_come_37 : decode cX3_come 37 = .ok (.aload_n 1, 1) := by decide +kernel
theorem dX3_come_38 : decode cX3_come 38 = .ok (.iload 4, 2) := by decide +kernel
theorem dX3_come_40 : decode cX3_come 40 = .ok (.iload_n 2, 1) := by decide +kernel
theorem dX3_come_41 : decode cX3_come 41 = .ok (.invokevirtual 71, 3) := by decide +kernel
theorem dX3_come_44 : decode cX3_come 44 = .ok (.iinc 4 1, 3) := by decide +kernel
theorem dX3_come_47 : decode cX3_come 47 = .ok (.goto (-42), 3) := by decide +kernel
theorem dX3_come_50 : decode cX3_come 50 = .ok (.aload_n 1, 1) := by decide +kernel
theorem dX3_come_51 : decode cX3_come 51 = .ok (.invokevirtual 74, 3) := by decide +kernel
theorem dX3_come_54 : decode cX3_come 54 = .ok (.iload_n 3, 1) := by decide +kernel
theorem dX3_come_55 : decode cX3_come 55 = .ok (.ireturn, 1) := by decide +kernel
theorem zd_X3_come : yX3_come.cls ≠ "java/lang/invoke/MethodHandle" ∧ yX3_come.cls ≠ "java/lang/invoke/VarHandle" ∧ (parseMethodDescriptor yX3_come.desc).map (fun d => d.parameters.length) = some 2 := by decide +kernel
set_option maxHeartbeats 4000000 in
set_option maxRecDepth 100000 in
theorem zc_X3_come (l : Launch) (D : va_G) (cI cZ : ClassId) (r : Nat) (ro : Nat) (rn : Nat) (rr : Nat) (rt : Int32) (fr : Int32) (pr : Int32) (n : Nat) (m : Nat) (a : Nat) (b : Nat) (f : Nat → Int32) (k : Nat) (hn : n ≤ 5) (hk : k < 4) : zI l yX3_come cX3_come 6 .int 3 63 D cI cZ [.ref r, .ref a, .int (nI k)] [(r, .inr (3, [.ref ro, .ref rn, .ref rr, .int rt, .int fr, .int pr, .int (nI n), .int (nI m)])), (a, .inr (6, [.ref b])), (b, .inl (cI, 36, .inl f))] (fun (r : Int32) (u : Unit) => r = zcs f rt fr k n) (fun (u : Unit) => [(r, .inr (3, [.ref ro, .ref rn, .ref rr, .int rt, .int fr, .int pr, .int (nI n), .int (nI m)])), (a, .inr (6, [.ref b])), (b, .inl (cI, 36, .inl (zcome f rt fr n k)))]) := by
  refine zI_of (by decide) (Nat.le_of_ble_eq_true rfl) ?_
  intro pP eE sS mM aA bB mT cC A ls Z hP hD hS hl
  have hx := Z.1
  have hb := Z.2.1
  have hown := Z.2.2.2.2.2.1
  have hts := Z.2.2.2.2.1
  have Z : zAt pP sS mM aA mT cC D cI cZ A "SurpriseTax$Realm" cX3_come 6 (some .int) := Z
  have hl : lv_has ls 6 [(0, .ref r), (1, .ref a), (2, .int (nI k))] := hl
  obtain ⟨H, hH⟩ : ∃ H, H = sS.heap := ⟨_, rfl⟩
  have hP : va_P D vwCl [(r, .inr (3, [.ref ro, .ref rn, .ref rr, .int rt, .int fr, .int pr, .int (nI n), .int (nI m)])), (a, .inr (6, [.ref b])), (b, .inl (cI, 36, .inl f))] H := by rw [hH]; exact hP
  have hS : va_S A sS.heap H [] := by rw [hH]; exact hS
  rw [← hH]
  clear hH
  obtain ⟨locs, hlo⟩ : ∃ q : List Loc, q = [] := ⟨_, rfl⟩
  rw [← hlo] at hS ⊢
  clear hlo
  refine lv_iconst (v := nI 0) hx hb dX3_come_0 (by decide) ?_
  refine lv_istore_n (lv' := [(3, .int (nI 0)), (0, .ref r), (1, .ref a), (2, .int (nI k))]) hx hb dX3_come_1 rfl hl (by decide) rfl (fun ls hl => ?_)
  refine lv_iconst (v := nI 0) hx hb dX3_come_2 (by decide) ?_
  refine lv_istore (lv' := [(4, .int (nI 0)), (3, .int (nI 0)), (0, .ref r), (1, .ref a), (2, .int (nI k))]) hx hb dX3_come_3 hl (by decide) rfl (fun ls hl => ?_)
  have e_2 : f = zcm f rt fr k 0 := by (first | rfl | (simp []; done) | (simp_all []; done))
  have hP : va_P D vwCl [(r, .inr (3, [.ref ro, .ref rn, .ref rr, .int rt, .int fr, .int pr, .int (nI n), .int (nI m)])), (a, .inr (6, [.ref b])), (b, .inl (cI, 36, .inl (zcm f rt fr k 0)))] H := Eq.subst (motive := fun zz_ => va_P D vwCl [(r, .inr (3, [.ref ro, .ref rn, .ref rr, .int rt, .int fr, .int pr, .int (nI n), .int (nI m)])), (a, .inr (6, [.ref b])), (b, .inl (cI, 36, .inl zz_))] H) e_2 hP
  have hD : va_D A [(r, .inr (3, [.ref ro, .ref rn, .ref rr, .int rt, .int fr, .int pr, .int (nI n), .int (nI m)])), (a, .inr (6, [.ref b])), (b, .inl (cI, 36, .inl (zcm f rt fr k 0)))] := zD_of hD rfl
  have hl : lv_has ls 6 [(4, .int (nI 0)), (3, .int (nI 0)), (0, .ref r), (1, .ref a), (2, .int (nI k))] := lv_sub hl [0, 1, 2, 3, 4] rfl
  have e_3 : nI 0 = zcs f rt fr k 0 := by (first | rfl | (simp []; done) | (simp_all []; done))
  have hl : lv_has ls 6 [(4, .int (nI 0)), (3, .int (zcs f rt fr k 0)), (0, .ref r), (1, .ref a), (2, .int (nI k))] := Eq.subst (motive := fun zz_ => lv_has ls 6 [(4, .int (nI 0)), (3, .int zz_), (0, .ref r), (1, .ref a), (2, .int (nI k))]) e_3 hl
  refine z_loop (fun i H locs ls => va_P D vwCl [(r, .inr (3, [.ref ro, .ref rn, .ref rr, .int rt, .int fr, .int pr, .int (nI n), .int (nI m)])), (a, .inr (6, [.ref b])), (b, .inl (cI, 36, .inl (zcm f rt fr k i)))] H ∧ va_D A [(r, .inr (3, [.ref ro, .ref rn, .ref rr, .int rt, .int fr, .int pr, .int (nI n), .int (nI m)])), (a, .inr (6, [.ref b])), (b, .inl (cI, 36, .inl (zcm f rt fr k i)))] ∧ va_S A sS.heap H locs ∧ lv_has ls 6 [(4, .int (nI i)), (3, .int (zcs f rt fr k i)), (0, .ref r), (1, .ref a), (2, .int (nI k))]) (n) (lo := 0) (by omega) ⟨hP, hD, hS, hl⟩ (fun i hi_i ih_1 H locs ls hI => ?_)
  obtain ⟨hP, hD, hS, hl⟩ := hI
  have hP : va_P D vwCl [(r, .inr (3, [.ref ro, .ref rn, .ref rr, .int rt, .int fr, .int pr, .int (nI n), .int (nI m)])), (a, .inr (6, [.ref b])), (b, .inl (cI, 36, .inl (zcm f rt fr k i)))] H := hP
  have hD : va_D A [(r, .inr (3, [.ref ro, .ref rn, .ref rr, .int rt, .int fr, .int pr, .int (nI n), .int (nI m)])), (a, .inr (6, [.ref b])), (b, .inl (cI, 36, .inl (zcm f rt fr k i)))] := hD
  have hl : lv_has ls 6 [(4, .int (nI i)), (3, .int (zcs f rt fr k i)), (0, .ref r), (1, .ref a), (2, .int (nI k))] := hl
  refine lv_iload hx hb dX3_come_5 (lv_at hl 0 rfl) ?_
  refine lv_aload_n hx hb dX3_come_7 rfl (lv_at hl 2 rfl) ?_
  refine z_get (ci := 3) (v := .int (nI n)) Z zin3 hP 0 rfl rfl 6 (by decide) zm78 rfl rfl dX3_come_8 ?_
  refine lv_icmp_ge (tgt := 50) hx hb dX3_come_11 (by decide) (fun c_4 => ?_) (fun c_4 => ?_)
  · have c_4 := zle (i := n) (j := i) (by omega) (by omega) c_4
    have hE_ : n = i := by omega
    subst hE_
    refine lv_aload_n hx hb dX3_come_50 rfl (lv_at hl 3 rfl) ?_
    refine z_callVv (As := []) (rest := []) (ci := 6) (k0 := 0) Z hP hD hS hl.1 (zc_X6_beginDay l D cI cZ a b (zcm f rt fr k n) ) zm407 zm408 zm409 zm33 zm410 ⟨rfl, zd_X6_beginDay⟩ ⟨Nat.le_of_ble_eq_true rfl, Nat.le_of_ble_eq_true rfl⟩ ⟨Nat.zero_le _, Nat.zero_le _⟩ [1, 2] rfl (by decide) rfl rfl rfl (fun _ => rfl) rfl (Nat.le_of_ble_eq_true rfl) rfl dX3_come_51 (fun u H locs h_6 hP hD hS => ?_)
    have hP : va_P D vwCl [(r, .inr (3, [.ref ro, .ref rn, .ref rr, .int rt, .int fr, .int pr, .int (nI n), .int (nI m)])), (a, .inr (6, [.ref b])), (b, .inl (cI, 36, .inl (zfg (upd (zcm f rt fr k n) 35 ((zcm f rt fr k n) 35 + 1)) 5)))] H := hP
    have hD : va_D A [(r, .inr (3, [.ref ro, .ref rn, .ref rr, .int rt, .int fr, .int pr, .int (nI n), .int (nI m)])), (a, .inr (6, [.ref b])), (b, .inl (cI, 36, .inl (zfg (upd (zcm f rt fr k n) 35 ((zcm f rt fr k n) 35 + 1)) 5)))] := hD
    refine lv_iload_n hx hb dX3_come_54 rfl (lv_at hl 1 rfl) ?_
    have e_7 : zfg (upd (zcm f rt fr k n) 35 ((zcm f rt fr k n) 35 + 1)) 5 = zcome f rt fr n k := by (first | rfl | (simp [c_4]; done) | (simp_all []; done))
    have hP : va_P D vwCl [(r, .inr (3, [.ref ro, .ref rn, .ref rr, .int rt, .int fr, .int pr, .int (nI n), .int (nI m)])), (a, .inr (6, [.ref b])), (b, .inl (cI, 36, .inl (zcome f rt fr n k)))] H := Eq.subst (motive := fun zz_ => va_P D vwCl [(r, .inr (3, [.ref ro, .ref rn, .ref rr, .int rt, .int fr, .int pr, .int (nI n), .int (nI m)])), (a, .inr (6, [.ref b])), (b, .inl (cI, 36, .inl zz_))] H) e_7 hP
    have hD : va_D A [(r, .inr (3, [.ref ro, .ref rn, .ref rr, .int rt, .int fr, .int pr, .int (nI n), .int (nI m)])), (a, .inr (6, [.ref b])), (b, .inl (cI, 36, .inl (zcome f rt fr n k)))] := zD_of hD rfl
    exact z_iret Z () rfl hP hS dX3_come_55
  · have c_4 := znle (i := n) (j := i) (by omega) (by omega) c_4
    refine lv_aload_n hx hb dX3_come_14 rfl (lv_at hl 2 rfl) ?_
    refine lv_aload_n hx hb dX3_come_15 rfl (lv_at hl 3 rfl) ?_
    refine lv_iload hx hb dX3_come_16 (lv_at hl 0 rfl) ?_
    refine lv_iload_n hx hb dX3_come_18 rfl (lv_at hl 4 rfl) ?_
    refine z_callVi (As := [.ref a, .int (nI i), .int (nI k)]) (rest := []) (ci := 3) (k0 := 0) Z hP hD hS hl.1 (zc_X3_taxOf l D cI cZ r ro rn rr rt fr pr n m a b (zcm f rt fr k i) i k (by omega) (by omega)) zm391 zm392 zm393 zm32 zm394 ⟨rfl, zd_X3_taxOf⟩ ⟨Nat.le_of_ble_eq_true rfl, Nat.le_of_ble_eq_true rfl⟩ ⟨Nat.zero_le _, Nat.zero_le _⟩ [0, 1, 2] rfl (by decide) rfl rfl rfl (fun _ => rfl) rfl (Nat.le_of_ble_eq_true rfl) rfl dX3_come_19 (fun r_8 u H locs h_9 hP hD hS => ?_)
    have hP : va_P D vwCl [(r, .inr (3, [.ref ro, .ref rn, .ref rr, .int rt, .int fr, .int pr, .int (nI n), .int (nI m)])), (a, .inr (6, [.ref b])), (b, .inl (cI, 36, .inl (zcm f rt fr k i)))] H := hP
    have hD : va_D A [(r, .inr (3, [.ref ro, .ref rn, .ref rr, .int rt, .int fr, .int pr, .int (nI n), .int (nI m)])), (a, .inr (6, [.ref b])), (b, .inl (cI, 36, .inl (zcm f rt fr k i)))] := hD
    have h_9 : r_8 = ztax (zcm f rt fr k i) rt fr i k := h_9
    subst h_9
    refine lv_istore (lv' := [(5, .int (ztax (zcm f rt fr k i) rt fr i k)), (4, .int (nI i)), (3, .int (zcs f rt fr k i)), (0, .ref r), (1, .ref a), (2, .int (nI k))]) hx hb dX3_come_22 hl (by decide) rfl (fun ls hl => ?_)
    refine lv_iload_n hx hb dX3_come_24 rfl (lv_at hl 2 rfl) ?_
    refine lv_iload hx hb dX3_come_25 (lv_at hl 0 rfl) ?_
    refine lv_iadd hx hb dX3_come_27 ?_
    refine z_top (y := (zcs f rt fr k i) + (ztax (zcm f rt fr k i) rt fr i k)) rfl ?_
    refine lv_istore_n (lv' := [(3, .int ((zcs f rt fr k i) + (ztax (zcm f rt fr k i) rt fr i k))), (5, .int (ztax (zcm f rt fr k i) rt fr i k)), (4, .int (nI i)), (0, .ref r), (1, .ref a), (2, .int (nI k))]) hx hb dX3_come_28 rfl hl (by decide) rfl (fun ls hl => ?_)
    refine lv_aload_n hx hb dX3_come_29 rfl (lv_at hl 4 rfl) ?_
    refine lv_iload hx hb dX3_come_30 (lv_at hl 2 rfl) ?_
    refine lv_iload hx hb dX3_come_32 (lv_at hl 1 rfl) ?_
    refine z_callVv (As := [.int (nI i), .int (ztax (zcm f rt fr k i) rt fr i k)]) (rest := []) (ci := 6) (k0 := 0) Z hP hD hS hl.1 (zc_X6_pay l D cI cZ a b (zcm f rt fr k i) i (ztax (zcm f rt fr k i) rt fr i k) (by omega)) zm400 zm364 zm365 zm33 zm366 ⟨rfl, zd_X6_pay⟩ ⟨Nat.le_of_ble_eq_true rfl, Nat.le_of_ble_eq_true rfl⟩ ⟨Nat.zero_le _, Nat.zero_le _⟩ [1, 2] rfl (by decide) rfl rfl rfl (fun _ => rfl) rfl (Nat.le_of_ble_eq_true rfl) rfl dX3_come_34 (fun u H locs h_11 hP hD hS => ?_)
    have hP : va_P D vwCl [(r, .inr (3, [.ref ro, .ref rn, .ref rr, .int rt, .int fr, .int pr, .int (nI n), .int (nI m)])), (a, .inr (6, [.ref b])), (b, .inl (cI, 36, .inl (upd (zcm f rt fr k i) (20 + i) ((zcm f rt fr k i) (20 + i) - (ztax (zcm f rt fr k i) rt fr i k)))))] H := hP
    have hD : va_D A [(r, .inr (3, [.ref ro, .ref rn, .ref rr, .int rt, .int fr, .int pr, .int (nI n), .int (nI m)])), (a, .inr (6, [.ref b])), (b, .inl (cI, 36, .inl (upd (zcm f rt fr k i) (20 + i) ((zcm f rt fr k i) (20 + i) - (ztax (zcm f rt fr k i) rt fr i k)))))] := hD
    refine lv_aload_n hx hb dX3_come_37 rfl (lv_at hl 4 rfl) ?_
    refine lv_iload hx hb dX3_come_38 (lv_at hl 2 rfl) ?_
    refine lv_iload_n hx hb dX3_come_40 rfl (lv_at hl 5 rfl) ?_
    refine z_callVv (As := [.int (nI i), .int (nI k)]) (rest := []) (ci := 6) (k0 := 0) Z hP hD hS hl.1 (zc_X6_learn l D cI cZ a b (upd (zcm f rt fr k i) (20 + i) ((zcm f rt fr k i) (20 + i) - (ztax (zcm f rt fr k i) rt fr i k))) i k (by omega) (by omega)) zm401 zm402 zm403 zm33 zm404 ⟨rfl, zd_X6_learn⟩ ⟨Nat.le_of_ble_eq_true rfl, Nat.le_of_ble_eq_true rfl⟩ ⟨Nat.zero_le _, Nat.zero_le _⟩ [1, 2] rfl (by decide) rfl rfl rfl (fun _ => rfl) rfl (Nat.le_of_ble_eq_true rfl) rfl dX3_come_41 (fun u H locs h_13 hP hD hS => ?_)
    have hP : va_P D vwCl [(r, .inr (3, [.ref ro, .ref rn, .ref rr, .int rt, .int fr, .int pr, .int (nI n), .int (nI m)])), (a, .inr (6, [.ref b])), (b, .inl (cI, 36, .inl (zlearn (upd (zcm f rt fr k i) (20 + i) ((zcm f rt fr k i) (20 + i) - (ztax (zcm f rt fr k i) rt fr i k))) i k)))] H := hP
    have hD : va_D A [(r, .inr (3, [.ref ro, .ref rn, .ref rr, .int rt, .int fr, .int pr, .int (nI n), .int (nI m)])), (a, .inr (6, [.ref b])), (b, .inl (cI, 36, .inl (zlearn (upd (zcm f rt fr k i) (20 + i) ((zcm f rt fr k i) (20 + i) - (ztax (zcm f rt fr k i) rt fr i k))) i k)))] := hD
    refine lv_iinc (v := nI (i + 1)) (lv' := [(4, .int (nI (i + 1))), (3, .int ((zcs f rt fr k i) + (ztax (zcm f rt fr k i) rt fr i k))), (5, .int (ztax (zcm f rt fr k i) rt fr i k)), (0, .ref r), (1, .ref a), (2, .int (nI k))]) hx hb dX3_come_44 hl (k := 2) rfl (z_inc _ 1) (by decide) rfl (fun ls hl => ?_)
    refine lv_goto (tgt := 5) hx hb dX3_come_47 (by decide) ?_
    have e_14 : zlearn (upd (zcm f rt fr k i) (20 + i) ((zcm f rt fr k i) (20 + i) - (ztax (zcm f rt fr k i) rt fr i k))) i k = zcm f rt fr k (i + 1) := by (first | rfl | (simp [c_4]; done) | (simp_all []; done))
    have hP : va_P D vwCl [(r, .inr (3, [.ref ro, .ref rn, .ref rr, .int rt, .int fr, .int pr, .int (nI n), .int (nI m)])), (a, .inr (6, [.ref b])), (b, .inl (cI, 36, .inl (zcm f rt fr k (i + 1))))] H := Eq.subst (motive := fun zz_ => va_P D vwCl [(r, .inr (3, [.ref ro, .ref rn, .ref rr, .int rt, .int fr, .int pr, .int (nI n), .int (nI m)])), (a, .inr (6, [.ref b])), (b, .inl (cI, 36, .inl zz_))] H) e_14 hP
    have hD : va_D A [(r, .inr (3, [.ref ro, .ref rn, .ref rr, .int rt, .int fr, .int pr, .int (nI n), .int (nI m)])), (a, .inr (6, [.ref b])), (b, .inl (cI, 36, .inl (zcm f rt fr k (i + 1))))] := zD_of hD rfl
    have hl : lv_has ls 6 [(4, .int (nI (i + 1))), (3, .int ((zcs f rt fr k i) + (ztax (zcm f rt fr k i) rt fr i k))), (0, .ref r), (1, .ref a), (2, .int (nI k))] := lv_sub hl [0, 1, 3, 4, 5] rfl
    have e_15 : (zcs f rt fr k i) + (ztax (zcm f rt fr k i) rt fr i k) = zcs f rt fr k (i + 1) := by (first | rfl | (simp [c_4]; done) | (simp_all []; done))
    have hl : lv_has ls 6 [(4, .int (nI (i + 1))), (3, .int (zcs f rt fr k (i + 1))), (0, .ref r), (1, .ref a), (2, .int (nI k))] := Eq.subst (motive := fun zz_ => lv_has ls 6 [(4, .int (nI (i + 1))), (3, .int zz_), (0, .ref r), (1, .ref a), (2, .int (nI k))]) e_15 hl
    exact ih_1 _ _ _ (by omega) ⟨hP, hD, hS, hl⟩

theorem dX3_drawnBy_0 : decode cX3_drawnBy 0 = .ok (.lload_n 1, 1) := by decide +kernel
theorem dX3_drawnBy_1 : decode cX3_drawnBy 1 = .ok (.bipush 33, 2) := by decide +kernel
theorem dX3_drawnBy_3 : decode cX3_drawnBy 3 = .ok (.lushr, 1) := by decide +kernel
theorem dX3_drawnBy_4 : decode cX3_drawnBy 4 = .ok (.ldc2_w 77, 3) := by decide +kernel
theorem dX3_drawnBy_7 : decode cX3_drawnBy 7 = .ok (.lrem, 1) := by decide +kernel
theorem dX3_drawnBy_8 : decode cX3_drawnBy 8 = .ok (.l2i, 1) := by decide +kernel
theorem dX3_drawnBy_9 : decode cX3_drawnBy 9 = .ok (.istore_n 3, 1) := by decide +kernel
theorem dX3_drawnBy_10 : decode cX3_drawnBy 10 = .ok (.iconst 0, 1) := by decide +kernel
theorem dX3_drawnBy_11 : decode cX3_drawnBy 11 = .ok (.istore 4, 2) := by decide +kernel
theorem dX3_drawnBy_13 : decode cX3_drawnBy 13 = .ok (.iconst 0, 1) := by decide +kernel
theorem dX3_drawnBy_14 : decode cX3_drawnBy 14 = .ok (.istore 5, 2) := by decide +kernel
theorem dX3_drawnBy_16 : decode cX3_drawnBy 16 = .ok (.iload 5, 2) := by decide +kernel
theorem dX3_drawnBy_18 : decode cX3_drawnBy 18 = .ok (.iconst 4, 1) := by decide +kernel
theorem dX3_drawnBy_19 : decode cX3_drawnBy 19 = .ok (.if_icmp .ge 30, 3) := by decide +kernel
theorem dX3_drawnBy_22 : decode cX3_drawnBy 22 = .ok (.iload 4, 2) := by decide +kernel
theorem dX3_drawnBy_24 : decode cX3_drawnBy 24 = .ok (.aload_n 0, 1) := by decide +kernel
theorem dX3_drawnBy_25 : decode cX3_drawnBy 25 = .ok (.getfield 9, 3) := by decide +kernel
theorem dX3_drawnBy_28 : decode cX3_drawnBy 28 = .ok (.iload 5, 2) := by decide +kernel
theorem dX3_drawnBy_30 : decode cX3_drawnBy 30 = .ok (.iaload, 1) := by decide +kernel
theorem dX3_drawnBy_31 : decode cX3_drawnBy 31 = .ok (.iadd, 1) := by decide +kernel
theorem dX3_drawnBy_32 : decode cX3_drawnBy 32 = .ok (.istore 4, 2) := by decide +kernel
theorem dX3_drawnBy_34 : decode cX3_drawnBy 34 = .ok (.iload 4, 2) := by decide +kernel
theorem dX3_drawnBy_36 : decode cX3_drawnBy 36 = .ok (.iload_n 3, 1) := by decide +kernel
theorem dX3_drawnBy_37 : decode cX3_drawnBy 37 = .ok (.if_icmp .le 6, 3) := by decide +kernel
theorem dX3_drawnBy_40 : decode cX3_drawnBy 40 = .ok (.iload 5, 2) := by decide +kernel
theorem dX3_drawnBy_42 : decode cX3_drawnBy 42 = .ok (.ireturn, 1) := by decide +kernel
theorem dX3_drawnBy_43 : decode cX3_drawnBy 43 = .ok (.iinc 5 1, 3) := by decide +kernel
theorem dX3_drawnBy_46 : decode cX3_drawnBy 46 = .ok (.goto (-30), 3) := by decide +kernel
theorem dX3_drawnBy_49 : decode cX3_drawnBy 49 = .ok (.iconst 3, 1) := by decide +kernel
theorem dX3_drawnBy_50 : decode cX3_drawnBy 50 = .ok (.ireturn, 1) := by decide +kernel
theorem zd_X3_drawnBy : yX3_drawnBy.cls ≠ "java/lang/invoke/MethodHandle" ∧ yX3_drawnBy.cls ≠ "java/lang/invoke/VarHandle" ∧ (parseMethodDescriptor yX3_drawnBy.desc).map (fun d => d.parameters.length) = some 1 := by decide +kernel
set_option maxHeartbeats 4000000 in
set_option maxRecDepth 100000 in
theorem zc_X3_drawnBy (l : Launch) (D : va_G) (cI cZ : ClassId) (r : Nat) (ro : Nat) (rn : Nat) (rr : Nat) (rt : Int32) (fr : Int32) (pr : Int32) (n : Nat) (m : Nat) (od : Nat → Int32) (x : Int64) : zI l yX3_drawnBy cX3_drawnBy 6 .int 0 0 D cI cZ [.ref r, .long x] [(r, .inr (3, [.ref ro, .ref rn, .ref rr, .int rt, .int fr, .int pr, .int (nI n), .int (nI m)])), (ro, .inl (cI, 4, .inl od))] (fun (r : Int32) (u : Unit) => r = nI (zdw od (zdr x))) (fun (u : Unit) => [(r, .inr (3, [.ref ro, .ref rn, .ref rr, .int rt, .int fr, .int pr, .int (nI n), .int (nI m)])), (ro, .inl (cI, 4, .inl od))]) := by
  refine zI_of (by decide) (Nat.le_of_ble_eq_true rfl) ?_
  intro pP eE sS mM aA bB mT cC A ls Z hP hD hS hl
  have hx := Z.1
  have hb := Z.2.1
  have hown := Z.2.2.2.2.2.1
  have hts := Z.2.2.2.2.1
  have Z : zAt pP sS mM aA mT cC D cI cZ A "SurpriseTax$Realm" cX3_drawnBy 6 (some .int) := Z
  have hl : lv_has ls 6 [(0, .ref r), (1, .long x)] := hl
  obtain ⟨H, hH⟩ : ∃ H, H = sS.heap := ⟨_, rfl⟩
  have hP : va_P D vwCl [(r, .inr (3, [.ref ro, .ref rn, .ref rr, .int rt, .int fr, .int pr, .int (nI n), .int (nI m)])), (ro, .inl (cI, 4, .inl od))] H := by rw [hH]; exact hP
  have hS : va_S A sS.heap H [] := by rw [hH]; exact hS
  rw [← hH]
  clear hH
  obtain ⟨locs, hlo⟩ : ∃ q : List Loc, q = [] := ⟨_, rfl⟩
  rw [← hlo] at hS ⊢
  clear hlo
  refine lv_lload_n hx hb dX3_drawnBy_0 rfl (lv_at hl 1 rfl) ?_
  refine lv_bipush (v := nI 33) hx hb dX3_drawnBy_1 (by decide) ?_
  refine lv_lushr (v := (x.toUInt64 >>> ((33 : Int32).toInt64.toUInt64 &&& Int64.toUInt64 63)).toInt64) hx hb dX3_drawnBy_3 rfl ?_
  refine lv_ldc2 (v := 10) hx hb hown (hts _ zm638) dX3_drawnBy_4 ?_
  refine lv_lrem hx hb dX3_drawnBy_7 (by decide) ?_
  refine lv_l2i (v := (((x.toUInt64 >>> ((33 : Int32).toInt64.toUInt64 &&& Int64.toUInt64 63)).toInt64) - ((x.toUInt64 >>> ((33 : Int32).toInt64.toUInt64 &&& Int64.toUInt64 63)).toInt64) / 10 * 10).toInt32) hx hb dX3_drawnBy_8 rfl ?_
  refine z_top (y := zdr x) (rfl) ?_
  refine lv_istore_n (lv' := [(3, .int (zdr x)), (0, .ref r), (1, .long x)]) hx hb dX3_drawnBy_9 rfl hl (by decide) rfl (fun ls hl => ?_)
  refine lv_iconst (v := nI 0) hx hb dX3_drawnBy_10 (by decide) ?_
  refine lv_istore (lv' := [(4, .int (nI 0)), (3, .int (zdr x)), (0, .ref r), (1, .long x)]) hx hb dX3_drawnBy_11 hl (by decide) rfl (fun ls hl => ?_)
  refine lv_iconst (v := nI 0) hx hb dX3_drawnBy_13 (by decide) ?_
  refine lv_istore (lv' := [(5, .int (nI 0)), (4, .int (nI 0)), (3, .int (zdr x)), (0, .ref r), (1, .long x)]) hx hb dX3_drawnBy_14 hl (by decide) rfl (fun ls hl => ?_)
  have hl : lv_has ls 6 [(5, .int (nI 0)), (4, .int (nI 0)), (3, .int (zdr x)), (0, .ref r), (1, .long x)] := lv_sub hl [0, 1, 2, 3, 4] rfl
  have e_2 : nI 0 = zos od 0 := by (first | rfl | (simp []; done) | (simp_all []; done))
  have hl : lv_has ls 6 [(5, .int (nI 0)), (4, .int (zos od 0)), (3, .int (zdr x)), (0, .ref r), (1, .long x)] := Eq.subst (motive := fun zz_ => lv_has ls 6 [(5, .int (nI 0)), (4, .int zz_), (3, .int (zdr x)), (0, .ref r), (1, .long x)]) e_2 hl
  refine z_loop (fun k H locs ls => va_P D vwCl [(r, .inr (3, [.ref ro, .ref rn, .ref rr, .int rt, .int fr, .int pr, .int (nI n), .int (nI m)])), (ro, .inl (cI, 4, .inl od))] H ∧ va_D A [(r, .inr (3, [.ref ro, .ref rn, .ref rr, .int rt, .int fr, .int pr, .int (nI n), .int (nI m)])), (ro, .inl (cI, 4, .inl od))] ∧ va_S A sS.heap H locs ∧ lv_has ls 6 [(5, .int (nI k)), (4, .int (zos od k)), (3, .int (zdr x)), (0, .ref r), (1, .long x)] ∧ (∀ j, j < k → zos od (j + 1) ≤ zdr x)) (4) (lo := 0) (by omega) ⟨hP, hD, hS, hl, (by intro j hj; omega)⟩ (fun k hi_k ih_1 H locs ls hI => ?_)
  obtain ⟨hP, hD, hS, hl, hv16_0⟩ := hI
  have hv16_0 : ∀ j, j < k → zos od (j + 1) ≤ zdr x := hv16_0
  have hP : va_P D vwCl [(r, .inr (3, [.ref ro, .ref rn, .ref rr, .int rt, .int fr, .int pr, .int (nI n), .int (nI m)])), (ro, .inl (cI, 4, .inl od))] H := hP
  have hD : va_D A [(r, .inr (3, [.ref ro, .ref rn, .ref rr, .int rt, .int fr, .int pr, .int (nI n), .int (nI m)])), (ro, .inl (cI, 4, .inl od))] := hD
  have hl : lv_has ls 6 [(5, .int (nI k)), (4, .int (zos od k)), (3, .int (zdr x)), (0, .ref r), (1, .long x)] := hl
  refine lv_iload hx hb dX3_drawnBy_16 (lv_at hl 0 rfl) ?_
  refine lv_iconst (v := nI 4) hx hb dX3_drawnBy_18 (by decide) ?_
  refine lv_icmp_ge (tgt := 49) hx hb dX3_drawnBy_19 (by decide) (fun c_3 => ?_) (fun c_3 => ?_)
  · have c_3 := zle (i := 4) (j := k) (by decide) (by omega) c_3
    refine lv_iconst (v := nI 3) hx hb dX3_drawnBy_49 (by decide) ?_
    exact z_iret Z () (by rw [zdw_3 (fun j hj => hv16_0 j (by omega))]) hP hS dX3_drawnBy_50
  · have c_3 := znle (i := 4) (j := k) (by decide) (by omega) c_3
    refine lv_iload hx hb dX3_drawnBy_22 (lv_at hl 1 rfl) ?_
    refine lv_aload_n hx hb dX3_drawnBy_24 rfl (lv_at hl 3 rfl) ?_
    refine z_get (ci := 3) (v := .ref ro) Z zin3 hP 0 rfl rfl 0 (by decide) zm72 rfl rfl dX3_drawnBy_25 ?_
    refine lv_iload hx hb dX3_drawnBy_28 (lv_at hl 0 rfl) ?_
    refine z_iald (n := 4) (f := od) (j := k) Z hP 1 rfl (by omega) (by decide) dX3_drawnBy_30 ?_
    refine lv_iadd hx hb dX3_drawnBy_31 ?_
    refine z_top (y := (zos od k) + (od k)) rfl ?_
    refine lv_istore (lv' := [(4, .int ((zos od k) + (od k))), (5, .int (nI k)), (3, .int (zdr x)), (0, .ref r), (1, .long x)]) hx hb dX3_drawnBy_32 hl (by decide) rfl (fun ls hl => ?_)
    refine lv_iload hx hb dX3_drawnBy_34 (lv_at hl 0 rfl) ?_
    refine lv_iload_n hx hb dX3_drawnBy_36 rfl (lv_at hl 2 rfl) ?_
    refine lv_icmp_le (tgt := 43) hx hb dX3_drawnBy_37 (by decide) (fun c_4 => ?_) (fun c_4 => ?_)
    · have c_4 : ((zos od k) + (od k)) ≤ (zdr x) := c_4
      refine lv_iinc (v := nI (k + 1)) (lv' := [(5, .int (nI (k + 1))), (4, .int ((zos od k) + (od k))), (3, .int (zdr x)), (0, .ref r), (1, .long x)]) hx hb dX3_drawnBy_43 hl (k := 1) rfl (z_inc _ 1) (by decide) rfl (fun ls hl => ?_)
      refine lv_goto (tgt := 16) hx hb dX3_drawnBy_46 (by decide) ?_
      have hl : lv_has ls 6 [(5, .int (nI (k + 1))), (4, .int ((zos od k) + (od k))), (3, .int (zdr x)), (0, .ref r), (1, .long x)] := lv_sub hl [0, 1, 2, 3, 4] rfl
      have e_5 : (zos od k) + (od k) = zos od (k + 1) := by (first | rfl | (simp [c_3, c_4]; done) | (simp_all []; done))
      have hl : lv_has ls 6 [(5, .int (nI (k + 1))), (4, .int (zos od (k + 1))), (3, .int (zdr x)), (0, .ref r), (1, .long x)] := Eq.subst (motive := fun zz_ => lv_has ls 6 [(5, .int (nI (k + 1))), (4, .int zz_), (3, .int (zdr x)), (0, .ref r), (1, .long x)]) e_5 hl
      exact ih_1 _ _ _ (by omega) ⟨hP, hD, hS, hl, (by intro j hj; rcases (show j < k ∨ j = k by omega) with q | q; exact hv16_0 j q; rw [q]; assumption)⟩
    · have c_4 : ¬ (((zos od k) + (od k)) ≤ (zdr x)) := c_4
      refine lv_iload hx hb dX3_drawnBy_40 (lv_at hl 1 rfl) ?_
      exact z_iret Z () (by rw [zdw_eq (by omega) hv16_0 (by assumption)]) hP hS dX3_drawnBy_42
