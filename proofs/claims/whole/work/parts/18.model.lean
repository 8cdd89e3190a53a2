theorem dX9_in_0 : decode cX9_in 0 = .ok (.lload_n 0, 1) := by decide +kernel
theorem dX9_in_1 : decode cX9_in 1 = .ok (.lload_n 2, 1) := by decide +kernel
theorem dX9_in_2 : decode cX9_in 2 = .ok (.lcmp, 1) := by decide +kernel
theorem dX9_in_3 : decode cX9_in 3 = .ok (.ifCond .lt 14, 3) := by decide +kernel
theorem dX9_in_6 : decode cX9_in 6 = .ok (.lload_n 0, 1) := by decide +kernel
theorem dX9_in_7 : decode cX9_in 7 = .ok (.lload 4, 2) := by decide +kernel
theorem dX9_in_9 : decode cX9_in 9 = .ok (.lcmp, 1) := by decide +kernel
theorem dX9_in_10 : decode cX9_in 10 = .ok (.ifCond .gt 7, 3) := by decide +kernel
theorem dX9_in_13 : decode cX9_in 13 = .ok (.iconst 1, 1) := by decide +kernel
theorem dX9_in_14 : decode cX9_in 14 = .ok (.goto 4, 3) := by decide +kernel
theorem dX9_in_17 : decode cX9_in 17 = .ok (.iconst 0, 1) := by decide +kernel
theorem dX9_in_18 : decode cX9_in 18 = .ok (.ireturn, 1) := by decide +kernel
theorem zd_X9_in : yX9_in.cls ≠ "java/lang/invoke/MethodHandle" ∧ yX9_in.cls ≠ "java/lang/invoke/VarHandle" ∧ (parseMethodDescriptor yX9_in.desc).map (fun d => d.parameters.length) = some 3 := by decide +kernel
set_option maxHeartbeats 4000000 in
set_option maxRecDepth 100000 in
theorem zc_X9_in (l : Launch) (D : va_G) (cI cZ : ClassId) (v1 : Int64) (v2 : Int64) (v3 : Int64) : zI l yX9_in cX9_in 6 .boolean 0 0 D cI cZ [.long v1, .long v2, .long v3] [] (fun (r : Int32) (u : Unit) => r = if ¬ v1 < v2 ∧ ¬ v3 < v1 then 1 else 0) (fun (u : Unit) => []) := by
  refine zI_of (by decide) (Nat.le_of_ble_eq_true rfl) ?_
  intro pP eE sS mM aA bB mT cC A ls Z hP hD hS hl
  have hx := Z.1
  have hb := Z.2.1
  have hown := Z.2.2.2.2.2.1
  have hts := Z.2.2.2.2.1
  have Z : zAt pP sS mM aA mT cC D cI cZ A "SurpriseTaxModel" cX9_in 6 (some .boolean) := Z
  have hl : lv_has ls 6 [(0, .long v1), (2, .long v2), (4, .long v3)] := hl
  obtain ⟨H, hH⟩ : ∃ H, H = sS.heap := ⟨_, rfl⟩
  have hP : va_P D vwCl [] H := by rw [hH]; exact hP
  have hS : va_S A sS.heap H [] := by rw [hH]; exact hS
  rw [← hH]
  clear hH
  obtain ⟨locs, hlo⟩ : ∃ q : List Loc, q = [] := ⟨_, rfl⟩
  rw [← hlo] at hS ⊢
  clear hlo
  refine lv_lload_n hx hb dX9_in_0 rfl (lv_at hl 0 rfl) ?_
  refine lv_lload_n hx hb dX9_in_1 rfl (lv_at hl 1 rfl) ?_
  refine W.lcmp hx hb dX9_in_2 ?_
  refine lv_if_lt (tgt := 17) hx hb dX9_in_3 (by decide) (fun c_1 => ?_) (fun c_1 => ?_)
  · have c_1 := lg_lt0 c_1
    refine lv_iconst (v := nI 0) hx hb dX9_in_17 (by decide) ?_
    exact z_zret Z () (by decide) (by first | (rw [if_pos (by first | assumption | exact ⟨by assumption, by assumption⟩)]; rfl) | (rw [if_neg (by first | assumption | exact fun q => q.1 (by assumption) | exact fun q => q.2 (by assumption))]; rfl)) hP hS dX9_in_18
  · have c_1 := lg_nlt0 c_1
    refine lv_lload_n hx hb dX9_in_6 rfl (lv_at hl 0 rfl) ?_
    refine lv_lload hx hb dX9_in_7 (lv_at hl 2 rfl) ?_
    refine W.lcmp hx hb dX9_in_9 ?_
    refine lv_if_gt (tgt := 17) hx hb dX9_in_10 (by decide) (fun c_2 => ?_) (fun c_2 => ?_)
    · have c_2 := lg_gt0 c_2
      refine lv_iconst (v := nI 0) hx hb dX9_in_17 (by decide) ?_
      exact z_zret Z () (by decide) (by first | (rw [if_pos (by first | assumption | exact ⟨by assumption, by assumption⟩)]; rfl) | (rw [if_neg (by first | assumption | exact fun q => q.1 (by assumption) | exact fun q => q.2 (by assumption))]; rfl)) hP hS dX9_in_18
    · have c_2 := lg_ngt0 c_2
      refine lv_iconst (v := nI 1) hx hb dX9_in_13 (by decide) ?_
      refine lv_goto (tgt := 18) hx hb dX9_in_14 (by decide) ?_
      exact z_zret Z () (by decide) (by first | (rw [if_pos (by first | assumption | exact ⟨by assumption, by assumption⟩)]; rfl) | (rw [if_neg (by first | assumption | exact fun q => q.1 (by assumption) | exact fun q => q.2 (by assumption))]; rfl)) hP hS dX9_in_18

theorem dX9_has_0 : decode cX9_has 0 = .ok (.iload_n 0, 1) := by decide +kernel
theorem dX9_has_1 : decode cX9_has 1 = .ok (.iload_n 1, 1) := by decide +kernel
theorem dX9_has_2 : decode cX9_has 2 = .ok (.ishr, 1) := by decide +kernel
theorem dX9_has_3 : decode cX9_has 3 = .ok (.iconst 1, 1) := by decide +kernel
theorem dX9_has_4 : decode cX9_has 4 = .ok (.iand, 1) := by decide +kernel
theorem dX9_has_5 : decode cX9_has 5 = .ok (.iconst 1, 1) := by decide +kernel
theorem dX9_has_6 : decode cX9_has 6 = .ok (.if_icmp .ne 7, 3) := by decide +kernel
theorem dX9_has_9 : decode cX9_has 9 = .ok (.iconst 1, 1) := by decide +kernel
theorem dX9_has_10 : decode cX9_has 10 = .ok (.goto 4, 3) := by decide +kernel
theorem dX9_has_13 : decode cX9_has 13 = .ok (.iconst 0, 1) := by decide +kernel
theorem dX9_has_14 : decode cX9_has 14 = .ok (.ireturn, 1) := by decide +kernel
theorem zd_X9_has : yX9_has.cls ≠ "java/lang/invoke/MethodHandle" ∧ yX9_has.cls ≠ "java/lang/invoke/VarHandle" ∧ (parseMethodDescriptor yX9_has.desc).map (fun d => d.parameters.length) = some 2 := by decide +kernel
set_option maxHeartbeats 4000000 in
set_option maxRecDepth 100000 in
theorem zc_X9_has (l : Launch) (D : va_G) (cI cZ : ClassId) (x : Int32) (q : Nat) (hq : q < 32) : zI l yX9_has cX9_has 2 .boolean 0 0 D cI cZ [.int x, .int (nI q)] [] (fun (r : Int32) (u : Unit) => r = if zin x q then 1 else 0) (fun (u : Unit) => []) := by
  refine zI_of (by decide) (Nat.le_of_ble_eq_true rfl) ?_
  intro pP eE sS mM aA bB mT cC A ls Z hP hD hS hl
  have hx := Z.1
  have hb := Z.2.1
  have hown := Z.2.2.2.2.2.1
  have hts := Z.2.2.2.2.1
  have Z : zAt pP sS mM aA mT cC D cI cZ A "SurpriseTaxModel" cX9_has 2 (some .boolean) := Z
  have hl : lv_has ls 2 [(0, .int x), (1, .int (nI q))] := hl
  obtain ⟨H, hH⟩ : ∃ H, H = sS.heap := ⟨_, rfl⟩
  have hP : va_P D vwCl [] H := by rw [hH]; exact hP
  have hS : va_S A sS.heap H [] := by rw [hH]; exact hS
  rw [← hH]
  clear hH
  obtain ⟨locs, hlo⟩ : ∃ q : List Loc, q = [] := ⟨_, rfl⟩
  rw [← hlo] at hS ⊢
  clear hlo
  refine lv_iload_n hx hb dX9_has_0 rfl (lv_at hl 0 rfl) ?_
  refine lv_iload_n hx hb dX9_has_1 rfl (lv_at hl 1 rfl) ?_
  refine lv_ishr hx hb dX9_has_2 ?_
  refine z_top (y := x >>> ((nI q) &&& 31)) rfl ?_
  refine lv_iconst (v := nI 1) hx hb dX9_has_3 (by decide) ?_
  refine lv_iand hx hb dX9_has_4 ?_
  refine z_top (y := (x >>> ((nI q) &&& 31)) &&& 1) rfl ?_
  refine lv_iconst (v := nI 1) hx hb dX9_has_5 (by decide) ?_
  refine lv_icmp_ne (tgt := 13) hx hb dX9_has_6 (by decide) (fun c_1 => ?_) (fun c_1 => ?_)
  · have c_1 : ¬ (((x >>> ((nI q) &&& 31)) &&& 1) = 1) := c_1
    refine lv_iconst (v := nI 0) hx hb dX9_has_13 (by decide) ?_
    exact z_zret Z () (by decide) (by first | (rw [if_pos (zin_y hq (by assumption))]; rfl) | (rw [if_neg (zin_n hq (by assumption))]; rfl)) hP hS dX9_has_14
  · have c_1 : ((x >>> ((nI q) &&& 31)) &&& 1) = 1 := c_1
    refine lv_iconst (v := nI 1) hx hb dX9_has_9 (by decide) ?_
    refine lv_goto (tgt := 14) hx hb dX9_has_10 (by decide) ?_
    exact z_zret Z () (by decide) (by first | (rw [if_pos (zin_y hq (by assumption))]; rfl) | (rw [if_neg (zin_n hq (by assumption))]; rfl)) hP hS dX9_has_14

theorem dX9_noOne_0 : decode cX9_noOne 0 = .ok (.iload_n 1, 1) := by decide +kernel
theorem dX9_noOne_1 : decode cX9_noOne 1 = .ok (.i2l, 1) := by decide +kernel
theorem dX9_noOne_2 : decode cX9_noOne 2 = .ok (.lconst 0, 1) := by decide +kernel
theorem dX9_noOne_3 : decode cX9_noOne 3 = .ok (.aload_n 0, 1) := by decide +kernel
theorem dX9_noOne_4 : decode cX9_noOne 4 = .ok (.getfield 66, 3) := by decide +kernel
theorem dX9_noOne_7 : decode cX9_noOne 7 = .ok (.iconst 1, 1) := by decide +kernel
theorem dX9_noOne_8 : decode cX9_noOne 8 = .ok (.isub, 1) := by decide +kernel
theorem dX9_noOne_9 : decode cX9_noOne 9 = .ok (.i2l, 1) := by decide +kernel
theorem dX9_noOne_10 : decode cX9_noOne 10 = .ok (.invokestatic 69, 3) := by decide +kernel
theorem dX9_noOne_13 : decode cX9_noOne 13 = .ok (.ifCond .ne 7, 3) := by decide +kernel
theorem dX9_noOne_16 : decode cX9_noOne 16 = .ok (.iconst 1, 1) := by decide +kernel
theorem dX9_noOne_17 : decode cX9_noOne 17 = .ok (.goto 4, 3) := by decide +kernel
theorem dX9_noOne_20 : decode cX9_noOne 20 = .ok (.iconst 0, 1) := by decide +kernel
theorem dX9_noOne_21 : decode cX9_noOne 21 = .ok (.ireturn, 1) := by decide +kernel
theorem zd_X9_noOne : yX9_noOne.cls ≠ "java/lang/invoke/MethodHandle" ∧ yX9_noOne.cls ≠ "java/lang/invoke/VarHandle" ∧ (parseMethodDescriptor yX9_noOne.desc).map (fun d => d.parameters.length) = some 1 := by decide +kernel
set_option maxHeartbeats 4000000 in
set_option maxRecDepth 100000 in
theorem zc_X9_noOne (l : Launch) (D : va_G) (cI cZ : ClassId) (M : Nat) (th : Int32) (mtx : Nat) (len : Nat) (pl : Nat) (rt : Int32) (fr : Int32) (pr : Int32) (mod_ : Nat) (n : Nat) (mne : Nat) (mro : Nat) (m : Nat) (rrt : Int32) (rfr : Int32) (rpr : Int32) (mrod : Nat) (rn9 : Nat) (mrne : Nat) (mrro : Nat) (rm9 : Nat) (mrp : Nat) (mpg : Nat) (mbk : Nat) (ac : Nat) (mke : Nat) (mik : Nat) (cr : Nat) (mrw : Nat) (mrd : Nat) (sd : Int64) (mtr : Nat) (mwo : Nat) (mnx : Nat) (jr : Int32) (x1 : Int32) (hn : n ≤ 5) : zI l yX9_noOne cX9_noOne 2 .boolean 1 25 D cI cZ [.ref M, .int x1] [(M, .inr (9, [.int th, .ref mtx, .int (nI len), .int (nI pl), .int rt, .int fr, .int pr, .ref mod_, .int (nI n), .ref mne, .ref mro, .int (nI m), .int rrt, .int rfr, .int rpr, .ref mrod, .int (nI rn9), .ref mrne, .ref mrro, .int (nI rm9), .ref mrp, .ref mpg, .ref mbk, .int (nI ac), .ref mke, .ref mik, .int (nI cr), .ref mrw, .ref mrd, .long sd, .ref mtr, .ref mwo, .ref mnx, .int jr]))] (fun (r : Int32) (u : Unit) => r = if ¬ zhas n x1 then 1 else 0) (fun (u : Unit) => [(M, .inr (9, [.int th, .ref mtx, .int (nI len), .int (nI pl), .int rt, .int fr, .int pr, .ref mod_, .int (nI n), .ref mne, .ref mro, .int (nI m), .int rrt, .int rfr, .int rpr, .ref mrod, .int (nI rn9), .ref mrne, .ref mrro, .int (nI rm9), .ref mrp, .ref mpg, .ref mbk, .int (nI ac), .ref mke, .ref mik, .int (nI cr), .ref mrw, .ref mrd, .long sd, .ref mtr, .ref mwo, .ref mnx, .int jr]))]) := by
  refine zI_of (by decide) (Nat.le_of_ble_eq_true rfl) ?_
  intro pP eE sS mM aA bB mT cC A ls Z hP hD hS hl
  have hx := Z.1
  have hb := Z.2.1
  have hown := Z.2.2.2.2.2.1
  have hts := Z.2.2.2.2.1
  have Z : zAt pP sS mM aA mT cC D cI cZ A "SurpriseTaxModel" cX9_noOne 2 (some .boolean) := Z
  have hl : lv_has ls 2 [(0, .ref M), (1, .int x1)] := hl
  obtain ⟨H, hH⟩ : ∃ H, H = sS.heap := ⟨_, rfl⟩
  have hP : va_P D vwCl [(M, .inr (9, [.int th, .ref mtx, .int (nI len), .int (nI pl), .int rt, .int fr, .int pr, .ref mod_, .int (nI n), .ref mne, .ref mro, .int (nI m), .int rrt, .int rfr, .int rpr, .ref mrod, .int (nI rn9), .ref mrne, .ref mrro, .int (nI rm9), .ref mrp, .ref mpg, .ref mbk, .int (nI ac), .ref mke, .ref mik, .int (nI cr), .ref mrw, .ref mrd, .long sd, .ref mtr, .ref mwo, .ref mnx, .int jr]))] H := by rw [hH]; exact hP
  have hS : va_S A sS.heap H [] := by rw [hH]; exact hS
  rw [← hH]
  clear hH
  obtain ⟨locs, hlo⟩ : ∃ q : List Loc, q = [] := ⟨_, rfl⟩
  rw [← hlo] at hS ⊢
  clear hlo
  refine lv_iload_n hx hb dX9_noOne_0 rfl (lv_at hl 1 rfl) ?_
  refine lv_i2l (v := x1.toInt64) hx hb dX9_noOne_1 rfl ?_
  refine lv_lconst (v := 0) hx hb dX9_noOne_2 (by decide) ?_
  refine lv_aload_n hx hb dX9_noOne_3 rfl (lv_at hl 0 rfl) ?_
  refine z_get (ci := 9) (v := .int (nI n)) Z zin9 hP 0 rfl rfl 8 (by decide) zm685 rfl rfl dX9_noOne_4 ?_
  refine lv_iconst (v := nI 1) hx hb dX9_noOne_7 (by decide) ?_
  refine lv_isub hx hb dX9_noOne_8 ?_
  refine lv_i2l (v := ((nI n) - (nI 1)).toInt64) hx hb dX9_noOne_9 rfl ?_
  refine z_callSi (As := [.long x1.toInt64, .long 0, .long (((nI n) - (nI 1)).toInt64)]) (rest := []) Z hP hD hS hl.1 (zc_X9_in l D cI cZ x1.toInt64 0 (((nI n) - (nI 1)).toInt64) ) zm750 zm751 zm39 zm752 zd_X9_in ⟨Nat.le_of_ble_eq_true rfl, Nat.le_of_ble_eq_true rfl⟩ ⟨Nat.zero_le _, Nat.zero_le _⟩ [] rfl (by decide) (fun _ => rfl) rfl (Nat.le_of_ble_eq_true rfl) rfl dX9_noOne_10 (fun r_1 u H locs h_2 hP hD hS => ?_)
  have hP : va_P D vwCl [(M, .inr (9, [.int th, .ref mtx, .int (nI len), .int (nI pl), .int rt, .int fr, .int pr, .ref mod_, .int (nI n), .ref mne, .ref mro, .int (nI m), .int rrt, .int rfr, .int rpr, .ref mrod, .int (nI rn9), .ref mrne, .ref mrro, .int (nI rm9), .ref mrp, .ref mpg, .ref mbk, .int (nI ac), .ref mke, .ref mik, .int (nI cr), .ref mrw, .ref mrd, .long sd, .ref mtr, .ref mwo, .ref mnx, .int jr]))] H := hP
  have hD : va_D A [(M, .inr (9, [.int th, .ref mtx, .int (nI len), .int (nI pl), .int rt, .int fr, .int pr, .ref mod_, .int (nI n), .ref mne, .ref mro, .int (nI m), .int rrt, .int rfr, .int rpr, .ref mrod, .int (nI rn9), .ref mrne, .ref mrro, .int (nI rm9), .ref mrp, .ref mpg, .ref mbk, .int (nI ac), .ref mke, .ref mik, .int (nI cr), .ref mrw, .ref mrd, .long sd, .ref mtr, .ref mwo, .ref mnx, .int jr]))] := hD
  have h_2 : r_1 = if ¬ x1.toInt64 < 0 ∧ ¬ (((nI n) - (nI 1)).toInt64) < x1.toInt64 then 1 else 0 := h_2
  subst h_2
  refine lv_if_ne (tgt := 20) hx hb dX9_noOne_13 (by decide) (fun c_3 => ?_) (fun c_3 => ?_)
  · have c_3 := zb1 c_3
    refine lv_iconst (v := nI 0) hx hb dX9_noOne_20 (by decide) ?_
    exact z_zret Z () (by decide) (by first | (rw [if_pos (fun q => absurd ((zinh (by omega)).mpr q) (by assumption))]; rfl) | (rw [if_neg (fun q => q ((zinh (by omega)).mp (by assumption)))]; rfl)) hP hS dX9_noOne_21
  · have c_3 := zb0 c_3
    refine lv_iconst (v := nI 1) hx hb dX9_noOne_16 (by decide) ?_
    refine lv_goto (tgt := 21) hx hb dX9_noOne_17 (by decide) ?_
    exact z_zret Z () (by decide) (by first | (rw [if_pos (fun q => absurd ((zinh (by omega)).mpr q) (by assumption))]; rfl) | (rw [if_neg (fun q => q ((zinh (by omega)).mp (by assumption)))]; rfl)) hP hS dX9_noOne_21

theorem dX9_noKind_0 : decode cX9_noKind 0 = .ok (.iload_n 0, 1) := by decide +kernel
theorem dX9_noKind_1 : decode cX9_noKind 1 = .ok (.i2l, 1) := by decide +kernel
theorem dX9_noKind_2 : decode cX9_noKind 2 = .ok (.lconst 0, 1) := by decide +kernel
theorem dX9_noKind_3 : decode cX9_noKind 3 = .ok (.ldc2_w 73, 3) := by decide +kernel
theorem dX9_noKind_6 : decode cX9_noKind 6 = .ok (.invokestatic 69, 3) := by decide +kernel
theorem dX9_noKind_9 : decode cX9_noKind 9 = .ok (.ifCond .ne 7, 3) := by decide +kernel
theorem dX9_noKind_12 : decode cX9_noKind 12 = .ok (.iconst 1, 1) := by decide +kernel
theorem dX9_noKind_13 : decode cX9_noKind 13 = .ok (.goto 4, 3) := by decide +kernel
theorem dX9_noKind_16 : decode cX9_noKind 16 = .ok (.iconst 0, 1) := by decide +kernel
theorem dX9_noKind_17 : decode cX9_noKind 17 = .ok (.ireturn, 1) := by decide +kernel
theorem zd_X9_noKind : yX9_noKind.cls ≠ "java/lang/invoke/MethodHandle" ∧ yX9_noKind.cls ≠ "java/lang/invoke/VarHandle" ∧ (parseMethodDescriptor yX9_noKind.desc).map (fun d => d.parameters.length) = some 1 := by decide +kernel
set_option maxHeartbeats 4000000 in
set_option maxRecDepth 100000 in
theorem zc_X9_noKind (l : Launch) (D : va_G) (cI cZ : ClassId) (x1 : Int32) : zI l yX9_noKind cX9_noKind 1 .boolean 1 25 D cI cZ [.int x1] [] (fun (r : Int32) (u : Unit) => r = if ¬ zkind x1 then 1 else 0) (fun (u : Unit) => []) := by
  refine zI_of (by decide) (Nat.le_of_ble_eq_true rfl) ?_
  intro pP eE sS mM aA bB mT cC A ls Z hP hD hS hl
  have hx := Z.1
  have hb := Z.2.1
  have hown := Z.2.2.2.2.2.1
  have hts := Z.2.2.2.2.1
  have Z : zAt pP sS mM aA mT cC D cI cZ A "SurpriseTaxModel" cX9_noKind 1 (some .boolean) := Z
  have hl : lv_has ls 1 [(0, .int x1)] := hl
  obtain ⟨H, hH⟩ : ∃ H, H = sS.heap := ⟨_, rfl⟩
  have hP : va_P D vwCl [] H := by rw [hH]; exact hP
  have hS : va_S A sS.heap H [] := by rw [hH]; exact hS
  rw [← hH]
  clear hH
  obtain ⟨locs, hlo⟩ : ∃ q : List Loc, q = [] := ⟨_, rfl⟩
  rw [← hlo] at hS ⊢
  clear hlo
  refine lv_iload_n hx hb dX9_noKind_0 rfl (lv_at hl 0 rfl) ?_
  refine lv_i2l (v := x1.toInt64) hx hb dX9_noKind_1 rfl ?_
  refine lv_lconst (v := 0) hx hb dX9_noKind_2 (by decide) ?_
  refine lv_ldc2 (v := 3) hx hb hown (hts _ zm800) dX9_noKind_3 ?_
  refine z_callSi (As := [.long x1.toInt64, .long 0, .long 3]) (rest := []) Z hP hD hS hl.1 (zc_X9_in l D cI cZ x1.toInt64 0 3 ) zm750 zm751 zm39 zm752 zd_X9_in ⟨Nat.le_of_ble_eq_true rfl, Nat.le_of_ble_eq_true rfl⟩ ⟨Nat.zero_le _, Nat.zero_le _⟩ [] rfl (by decide) (fun _ => rfl) rfl (Nat.le_of_ble_eq_true rfl) rfl dX9_noKind_6 (fun r_1 u H locs h_2 hP hD hS => ?_)
  have hP : va_P D vwCl [] H := hP
  have hD : va_D A [] := hD
  have h_2 : r_1 = if ¬ x1.toInt64 < 0 ∧ ¬ 3 < x1.toInt64 then 1 else 0 := h_2
  subst h_2
  refine lv_if_ne (tgt := 16) hx hb dX9_noKind_9 (by decide) (fun c_3 => ?_) (fun c_3 => ?_)
  · have c_3 := zb1 c_3
    refine lv_iconst (v := nI 0) hx hb dX9_noKind_16 (by decide) ?_
    exact z_zret Z () (by decide) (by first | (rw [if_pos (fun q => absurd (zink.mpr q) (by assumption))]; rfl) | (rw [if_neg (fun q => q (zink.mp (by assumption)))]; rfl)) hP hS dX9_noKind_17
  · have c_3 := zb0 c_3
    refine lv_iconst (v := nI 1) hx hb dX9_noKind_12 (by decide) ?_
    refine lv_goto (tgt := 17) hx hb dX9_noKind_13 (by decide) ?_
    exact z_zret Z () (by decide) (by first | (rw [if_pos (fun q => absurd (zink.mpr q) (by assumption))]; rfl) | (rw [if_neg (fun q => q (zink.mp (by assumption)))]; rfl)) hP hS dX9_noKind_17

theorem dX9_write_0 : decode cX9_write 0 = .ok (.aload_n 0, 1) := by decide +kernel
theorem dX9_write_1 : decode cX9_write 1 = .ok (.iconst 0, 1) := by decide +kernel
theorem dX9_write_2 : decode cX9_write 2 = .ok (.putfield 62, 3) := by decide +kernel
theorem dX9_write_5 : decode cX9_write 5 = .ok (.iload_n 1, 1) := by decide +kernel
theorem dX9_write_6 : decode cX9_write 6 = .ok (.i2l, 1) := by decide +kernel
theorem dX9_write_7 : decode cX9_write 7 = .ok (.lconst 0, 1) := by decide +kernel
theorem dX9_write_8 : decode cX9_write 8 = .ok (.ldc2_w 75, 3) := by decide +kernel
theorem dX9_write_11 : decode cX9_write 11 = .ok (.invokestatic 69, 3) := by decide +kernel
theorem dX9_write_14 : decode cX9_write 14 = .ok (.ifCond .ne 6, 3) := by decide +kernel
theorem dX9_write_17 : decode cX9_write 17 = .ok (.bipush (-2), 2) := by decide +kernel
theorem dX9_write_19 : decode cX9_write 19 = .ok (.ireturn, 1) := by decide +kernel
theorem dX9_write_20 : decode cX9_write 20 = .ok (.aload_n 0, 1) := by decide +kernel
theorem dX9_write_21 : decode cX9_write 21 = .ok (.getfield 77, 3) := by decide +kernel
theorem dX9_write_24 : decode cX9_write 24 = .ok (.bipush 64, 2) := by decide +kernel
theorem dX9_write_26 : decode cX9_write 26 = .ok (.if_icmp .ne 6, 3) := by decide +kernel
theorem dX9_write_29 : decode cX9_write 29 = .ok (.bipush (-4), 2) := by decide +kernel
theorem dX9_write_31 : decode cX9_write 31 = .ok (.ireturn, 1) := by decide +kernel
theorem dX9_write_32 : decode cX9_write 32 = .ok (.aload_n 0, 1) := by decide +kernel
theorem dX9_write_33 : decode cX9_write 33 = .ok (.getfield 7, 3) := by decide +kernel
theorem dX9_write_36 : decode cX9_write 36 = .ok (.aload_n 0, 1) := by decide +kernel
theorem dX9_write_37 : decode cX9_write 37 = .ok (.getfield 77, 3) := by decide +kernel
theorem dX9_write_40 : decode cX9_write 40 = .ok (.iload_n 1, 1) := by decide +kernel
theorem dX9_write_41 : decode cX9_write 41 = .ok (.iastore, 1) := by decide +kernel
theorem dX9_write_42 : decode cX9_write 42 = .ok (.aload_n 0, 1) := by decide +kernel
theorem dX9_write_43 : decode cX9_write 43 = .ok (.dup, 1) := by decide +kernel
theorem dX9_write_44 : decode cX9_write 44 = .ok (.getfield 77, 3) := by decide +kernel
theorem dX9_write_47 : decode cX9_write 47 = .ok (.iconst 1, 1) := by decide +kernel
theorem dX9_write_48 : decode cX9_write 48 = .ok (.iadd, 1) := by decide +kernel
theorem dX9_write_49 : decode cX9_write 49 = .ok (.putfield 77, 3) := by decide +kernel
theorem dX9_write_52 : decode cX9_write 52 = .ok (.aload_n 0, 1) := by decide +kernel
theorem dX9_write_53 : decode cX9_write 53 = .ok (.getfield 77, 3) := by decide +kernel
theorem dX9_write_56 : decode cX9_write 56 = .ok (.ireturn, 1) := by decide +kernel
theorem zd_X9_write : yX9_write.cls ≠ "java/lang/invoke/MethodHandle" ∧ yX9_write.cls ≠ "java/lang/invoke/VarHandle" ∧ (parseMethodDescriptor yX9_write.desc).map (fun d => d.parameters.length) = some 1 := by decide +kernel
set_option maxHeartbeats 4000000 in
set_option maxRecDepth 100000 in
theorem zc_X9_write (l : Launch) (D : va_G) (cI cZ : ClassId) (M : Nat) (th : Int32) (mtx : Nat) (len : Nat) (pl : Nat) (rt : Int32) (fr : Int32) (pr : Int32) (mod_ : Nat) (n : Nat) (mne : Nat) (mro : Nat) (m : Nat) (rrt : Int32) (rfr : Int32) (rpr : Int32) (mrod : Nat) (rn9 : Nat) (mrne : Nat) (mrro : Nat) (rm9 : Nat) (mrp : Nat) (mpg : Nat) (mbk : Nat) (ac : Nat) (mke : Nat) (mik : Nat) (cr : Nat) (mrw : Nat) (mrd : Nat) (sd : Int64) (mtr : Nat) (mwo : Nat) (mnx : Nat) (jr : Int32) (bf : Nat → Int32) (x1 : Int32) (hlen : len ≤ 64) : zI l yX9_write cX9_write 2 .int 1 25 D cI cZ [.ref M, .int x1] [(M, .inr (9, [.int th, .ref mtx, .int (nI len), .int (nI pl), .int rt, .int fr, .int pr, .ref mod_, .int (nI n), .ref mne, .ref mro, .int (nI m), .int rrt, .int rfr, .int rpr, .ref mrod, .int (nI rn9), .ref mrne, .ref mrro, .int (nI rm9), .ref mrp, .ref mpg, .ref mbk, .int (nI ac), .ref mke, .ref mik, .int (nI cr), .ref mrw, .ref mrd, .long sd, .ref mtr, .ref mwo, .ref mnx, .int jr])), (mtx, .inl (cI, 64, .inl bf))] (fun (r : Int32) (u : Unit) => r = zRa 0 255 x1 (fun _ => if len < 64 then nI (len + 1) else -4) (-2)) (fun (u : Unit) => [(M, .inr (9, [.int (nI 0), .ref mtx, .int (nI (zRa 0 255 x1 (fun _ => if len < 64 then len + 1 else len) len)), .int (nI pl), .int rt, .int fr, .int pr, .ref mod_, .int (nI n), .ref mne, .ref mro, .int (nI m), .int rrt, .int rfr, .int rpr, .ref mrod, .int (nI rn9), .ref mrne, .ref mrro, .int (nI rm9), .ref mrp, .ref mpg, .ref mbk, .int (nI ac), .ref mke, .ref mik, .int (nI cr), .ref mrw, .ref mrd, .long sd, .ref mtr, .ref mwo, .ref mnx, .int jr])), (mtx, .inl (cI, 64, .inl (zRa 0 255 x1 (fun _ => if len < 64 then upd bf len x1 else bf) bf)))]) := by
  refine zI_of (by decide) (Nat.le_of_ble_eq_true rfl) ?_
  intro pP eE sS mM aA bB mT cC A ls Z hP hD hS hl
  have hx := Z.1
  have hb := Z.2.1
  have hown := Z.2.2.2.2.2.1
  have hts := Z.2.2.2.2.1
  have Z : zAt pP sS mM aA mT cC D cI cZ A "SurpriseTaxModel" cX9_write 2 (some .int) := Z
  have hl : lv_has ls 2 [(0, .ref M), (1, .int x1)] := hl
  obtain ⟨H, hH⟩ : ∃ H, H = sS.heap := ⟨_, rfl⟩
  have hP : va_P D vwCl [(M, .inr (9, [.int th, .ref mtx, .int (nI len), .int (nI pl), .int rt, .int fr, .int pr, .ref mod_, .int (nI n), .ref mne, .ref mro, .int (nI m), .int rrt, .int rfr, .int rpr, .ref mrod, .int (nI rn9), .ref mrne, .ref mrro, .int (nI rm9), .ref mrp, .ref mpg, .ref mbk, .int (nI ac), .ref mke, .ref mik, .int (nI cr), .ref mrw, .ref mrd, .long sd, .ref mtr, .ref mwo, .ref mnx, .int jr])), (mtx, .inl (cI, 64, .inl bf))] H := by rw [hH]; exact hP
  have hS : va_S A sS.heap H [] := by rw [hH]; exact hS
  rw [← hH]
  clear hH
  obtain ⟨locs, hlo⟩ : ∃ q : List Loc, q = [] := ⟨_, rfl⟩
  rw [← hlo] at hS ⊢
  clear hlo
  refine lv_aload_n hx hb dX9_write_0 rfl (lv_at hl 0 rfl) ?_
  refine lv_iconst (v := nI 0) hx hb dX9_write_1 (by decide) ?_
  refine z_put (ci := 9) (v := .int (nI 0)) Z zin9 tyX9 tyX9_ok nmX9 hP hD hS 0 rfl rfl 0 (by decide) zm677 rfl rfl rfl rfl (Nat.le_of_ble_eq_true rfl) dX9_write_2 (fun H locs hP hD hS => ?_)
  have hP : va_P D vwCl [(M, .inr (9, [.int (nI 0), .ref mtx, .int (nI len), .int (nI pl), .int rt, .int fr, .int pr, .ref mod_, .int (nI n), .ref mne, .ref mro, .int (nI m), .int rrt, .int rfr, .int rpr, .ref mrod, .int (nI rn9), .ref mrne, .ref mrro, .int (nI rm9), .ref mrp, .ref mpg, .ref mbk, .int (nI ac), .ref mke, .ref mik, .int (nI cr), .ref mrw, .ref mrd, .long sd, .ref mtr, .ref mwo, .ref mnx, .int jr])), (mtx, .inl (cI, 64, .inl bf))] H := hP
  have hD : va_D A [(M, .inr (9, [.int (nI 0), .ref mtx, .int (nI len), .int (nI pl), .int rt, .int fr, .int pr, .ref mod_, .int (nI n), .ref mne, .ref mro, .int (nI m), .int rrt, .int rfr, .int rpr, .ref mrod, .int (nI rn9), .ref mrne, .ref mrro, .int (nI rm9), .ref mrp, .ref mpg, .ref mbk, .int (nI ac), .ref mke, .ref mik, .int (nI cr), .ref mrw, .ref mrd, .long sd, .ref mtr, .ref mwo, .ref mnx, .int jr])), (mtx, .inl (cI, 64, .inl bf))] := hD
  refine lv_iload_n hx hb dX9_write_5 rfl (lv_at hl 1 rfl) ?_
  refine lv_i2l (v := x1.toInt64) hx hb dX9_write_6 rfl ?_
  refine lv_lconst (v := 0) hx hb dX9_write_7 (by decide) ?_
  refine lv_ldc2 (v := 255) hx hb hown (hts _ zm749) dX9_write_8 ?_
  refine z_callSi (As := [.long x1.toInt64, .long 0, .long 255]) (rest := []) Z hP hD hS hl.1 (zc_X9_in l D cI cZ x1.toInt64 0 255 ) zm750 zm751 zm39 zm752 zd_X9_in ⟨Nat.le_of_ble_eq_true rfl, Nat.le_of_ble_eq_true rfl⟩ ⟨Nat.zero_le _, Nat.zero_le _⟩ [] rfl (by decide) (fun _ => rfl) rfl (Nat.le_of_ble_eq_true rfl) rfl dX9_write_11 (fun r_1 u H locs h_2 hP hD hS => ?_)
  have hP : va_P D vwCl [(M, .inr (9, [.int (nI 0), .ref mtx, .int (nI len), .int (nI pl), .int rt, .int fr, .int pr, .ref mod_, .int (nI n), .ref mne, .ref mro, .int (nI m), .int rrt, .int rfr, .int rpr, .ref mrod, .int (nI rn9), .ref mrne, .ref mrro, .int (nI rm9), .ref mrp, .ref mpg, .ref mbk, .int (nI ac), .ref mke, .ref mik, .int (nI cr), .ref mrw, .ref mrd, .long sd, .ref mtr, .ref mwo, .ref mnx, .int jr])), (mtx, .inl (cI, 64, .inl bf))] H := hP
  have hD : va_D A [(M, .inr (9, [.int (nI 0), .ref mtx, .int (nI len), .int (nI pl), .int rt, .int fr, .int pr, .ref mod_, .int (nI n), .ref mne, .ref mro, .int (nI m), .int rrt, .int rfr, .int rpr, .ref mrod, .int (nI rn9), .ref mrne, .ref mrro, .int (nI rm9), .ref mrp, .ref mpg, .ref mbk, .int (nI ac), .ref mke, .ref mik, .int (nI cr), .ref mrw, .ref mrd, .long sd, .ref mtr, .ref mwo, .ref mnx, .int jr])), (mtx, .inl (cI, 64, .inl bf))] := hD
  have h_2 : r_1 = if ¬ x1.toInt64 < 0 ∧ ¬ 255 < x1.toInt64 then 1 else 0 := h_2
  subst h_2
  refine lv_if_ne (tgt := 20) hx hb dX9_write_14 (by decide) (fun c_3 => ?_) (fun c_3 => ?_)
  · have c_3 := zb1 c_3
    have hrg := (zinr (x := x1) 0 255 rfl rfl).mp c_3
    obtain ⟨k, hk0, hk, rfl⟩ := zRa_of (lo := 0) (hi := 255) (by decide) (by decide) hrg.1 hrg.2
    refine lv_aload_n hx hb dX9_write_20 rfl (lv_at hl 0 rfl) ?_
    refine z_get (ci := 9) (v := .int (nI len)) Z zin9 hP 0 rfl rfl 2 (by decide) zm679 rfl rfl dX9_write_21 ?_
    refine lv_bipush (v := nI 64) hx hb dX9_write_24 (by decide) ?_
    refine lv_icmp_ne (tgt := 32) hx hb dX9_write_26 (by decide) (fun c_4 => ?_) (fun c_4 => ?_)
    · have c_4 := zne (i := len) (j := 64) c_4
      refine lv_aload_n hx hb dX9_write_32 rfl (lv_at hl 0 rfl) ?_
      refine z_get (ci := 9) (v := .ref mtx) Z zin9 hP 0 rfl rfl 1 (by decide) zm678 rfl rfl dX9_write_33 ?_
      refine lv_aload_n hx hb dX9_write_36 rfl (lv_at hl 0 rfl) ?_
      refine z_get (ci := 9) (v := .int (nI len)) Z zin9 hP 0 rfl rfl 2 (by decide) zm679 rfl rfl dX9_write_37 ?_
      refine lv_iload_n hx hb dX9_write_40 rfl (lv_at hl 1 rfl) ?_
      refine z_iast (n := 64) (f := bf) (j := len) (x := nI k) Z hP hD hS 1 rfl (by omega) (by decide) dX9_write_41 (fun H locs hP hD hS => ?_)
      have hP : va_P D vwCl [(M, .inr (9, [.int (nI 0), .ref mtx, .int (nI len), .int (nI pl), .int rt, .int fr, .int pr, .ref mod_, .int (nI n), .ref mne, .ref mro, .int (nI m), .int rrt, .int rfr, .int rpr, .ref mrod, .int (nI rn9), .ref mrne, .ref mrro, .int (nI rm9), .ref mrp, .ref mpg, .ref mbk, .int (nI ac), .ref mke, .ref mik, .int (nI cr), .ref mrw, .ref mrd, .long sd, .ref mtr, .ref mwo, .ref mnx, .int jr])), (mtx, .inl (cI, 64, .inl (upd bf len (nI k))))] H := hP
      have hD : va_D A [(M, .inr (9, [.int (nI 0), .ref mtx, .int (nI len), .int (nI pl), .int rt, .int fr, .int pr, .ref mod_, .int (nI n), .ref mne, .ref mro, .int (nI m), .int rrt, .int rfr, .int rpr, .ref mrod, .int (nI rn9), .ref mrne, .ref mrro, .int (nI rm9), .ref mrp, .ref mpg, .ref mbk, .int (nI ac), .ref mke, .ref mik, .int (nI cr), .ref mrw, .ref mrd, .long sd, .ref mtr, .ref mwo, .ref mnx, .int jr])), (mtx, .inl (cI, 64, .inl (upd bf len (nI k))))] := hD
      refine lv_aload_n hx hb dX9_write_42 rfl (lv_at hl 0 rfl) ?_
      refine lv_dup hx hb dX9_write_43 rfl ?_
      refine z_get (ci := 9) (v := .int (nI len)) Z zin9 hP 0 rfl rfl 2 (by decide) zm679 rfl rfl dX9_write_44 ?_
      refine lv_iconst (v := nI 1) hx hb dX9_write_47 (by decide) ?_
      refine lv_iadd hx hb dX9_write_48 ?_
      refine z_top (y := nI (len + 1)) (z_add _ _) ?_
      refine z_put (ci := 9) (v := .int (nI (len + 1))) Z zin9 tyX9 tyX9_ok nmX9 hP hD hS 0 rfl rfl 2 (by decide) zm679 rfl rfl rfl rfl (Nat.le_of_ble_eq_true rfl) dX9_write_49 (fun H locs hP hD hS => ?_)
      have hP : va_P D vwCl [(M, .inr (9, [.int (nI 0), .ref mtx, .int (nI (len + 1)), .int (nI pl), .int rt, .int fr, .int pr, .ref mod_, .int (nI n), .ref mne, .ref mro, .int (nI m), .int rrt, .int rfr, .int rpr, .ref mrod, .int (nI rn9), .ref mrne, .ref mrro, .int (nI rm9), .ref mrp, .ref mpg, .ref mbk, .int (nI ac), .ref mke, .ref mik, .int (nI cr), .ref mrw, .ref mrd, .long sd, .ref mtr, .ref mwo, .ref mnx, .int jr])), (mtx, .inl (cI, 64, .inl (upd bf len (nI k))))] H := hP
      have hD : va_D A [(M, .inr (9, [.int (nI 0), .ref mtx, .int (nI (len + 1)), .int (nI pl), .int rt, .int fr, .int pr, .ref mod_, .int (nI n), .ref mne, .ref mro, .int (nI m), .int rrt, .int rfr, .int rpr, .ref mrod, .int (nI rn9), .ref mrne, .ref mrro, .int (nI rm9), .ref mrp, .ref mpg, .ref mbk, .int (nI ac), .ref mke, .ref mik, .int (nI cr), .ref mrw, .ref mrd, .long sd, .ref mtr, .ref mwo, .ref mnx, .int jr])), (mtx, .inl (cI, 64, .inl (upd bf len (nI k))))] := hD
      refine lv_aload_n hx hb dX9_write_52 rfl (lv_at hl 0 rfl) ?_
      refine z_get (ci := 9) (v := .int (nI (len + 1))) Z zin9 hP 0 rfl rfl 2 (by decide) zm679 rfl rfl dX9_write_53 ?_
      have e_5 : nI (len + 1) = nI (zRa 0 255 (nI k) (fun _ => if len < 64 then len + 1 else len) len) := by first | rw [zRa_n hrgn] | (rw [zRa_y hk0 hk (by decide)]; first | rw [if_pos (by omega)] | rw [if_neg (by omega)]) | rfl
      have hP : va_P D vwCl [(M, .inr (9, [.int (nI 0), .ref mtx, .int (nI (zRa 0 255 (nI k) (fun _ => if len < 64 then len + 1 else len) len)), .int (nI pl), .int rt, .int fr, .int pr, .ref mod_, .int (nI n), .ref mne, .ref mro, .int (nI m), .int rrt, .int rfr, .int rpr, .ref mrod, .int (nI rn9), .ref mrne, .ref mrro, .int (nI rm9), .ref mrp, .ref mpg, .ref mbk, .int (nI ac), .ref mke, .ref mik, .int (nI cr), .ref mrw, .ref mrd, .long sd, .ref mtr, .ref mwo, .ref mnx, .int jr])), (mtx, .inl (cI, 64, .inl (upd bf len (nI k))))] H := Eq.subst (motive := fun zz_ => va_P D vwCl [(M, .inr (9, [.int (nI 0), .ref mtx, .int zz_, .int (nI pl), .int rt, .int fr, .int pr, .ref mod_, .int (nI n), .ref mne, .ref mro, .int (nI m), .int rrt, .int rfr, .int rpr, .ref mrod, .int (nI rn9), .ref mrne, .ref mrro, .int (nI rm9), .ref mrp, .ref mpg, .ref mbk, .int (nI ac), .ref mke, .ref mik, .int (nI cr), .ref mrw, .ref mrd, .long sd, .ref mtr, .ref mwo, .ref mnx, .int jr])), (mtx, .inl (cI, 64, .inl (upd bf len (nI k))))] H) e_5 hP
      have e_6 : upd bf len (nI k) = zRa 0 255 (nI k) (fun _ => if len < 64 then upd bf len (nI k) else bf) bf := by first | rw [zRa_n hrgn] | (rw [zRa_y hk0 hk (by decide)]; first | rw [if_pos (by omega)] | rw [if_neg (by omega)]) | rfl
      have hP : va_P D vwCl [(M, .inr (9, [.int (nI 0), .ref mtx, .int (nI (zRa 0 255 (nI k) (fun _ => if len < 64 then len + 1 else len) len)), .int (nI pl), .int rt, .int fr, .int pr, .ref mod_, .int (nI n), .ref mne, .ref mro, .int (nI m), .int rrt, .int rfr, .int rpr, .ref mrod, .int (nI rn9), .ref mrne, .ref mrro, .int (nI rm9), .ref mrp, .ref mpg, .ref mbk, .int (nI ac), .ref mke, .ref mik, .int (nI cr), .ref mrw, .ref mrd, .long sd, .ref mtr, .ref mwo, .ref mnx, .int jr])), (mtx, .inl (cI, 64, .inl (zRa 0 255 (nI k) (fun _ => if len < 64 then upd bf len (nI k) else bf) bf)))] H := Eq.subst (motive := fun zz_ => va_P D vwCl [(M, .inr (9, [.int (nI 0), .ref mtx, .int (nI (zRa 0 255 (nI k) (fun _ => if len < 64 then len + 1 else len) len)), .int (nI pl), .int rt, .int fr, .int pr, .ref mod_, .int (nI n), .ref mne, .ref mro, .int (nI m), .int rrt, .int rfr, .int rpr, .ref mrod, .int (nI rn9), .ref mrne, .ref mrro, .int (nI rm9), .ref mrp, .ref mpg, .ref mbk, .int (nI ac), .ref mke, .ref mik, .int (nI cr), .ref mrw, .ref mrd, .long sd, .ref mtr, .ref mwo, .ref mnx, .int jr])), (mtx, .inl (cI, 64, .inl zz_))] H) e_6 hP
      have hD : va_D A [(M, .inr (9, [.int (nI 0), .ref mtx, .int (nI (zRa 0 255 (nI k) (fun _ => if len < 64 then len + 1 else len) len)), .int (nI pl), .int rt, .int fr, .int pr, .ref mod_, .int (nI n), .ref mne, .ref mro, .int (nI m), .int rrt, .int rfr, .int rpr, .ref mrod, .int (nI rn9), .ref mrne, .ref mrro, .int (nI rm9), .ref mrp, .ref mpg, .ref mbk, .int (nI ac), .ref mke, .ref mik, .int (nI cr), .ref mrw, .ref mrd, .long sd, .ref mtr, .ref mwo, .ref mnx, .int jr])), (mtx, .inl (cI, 64, .inl (zRa 0 255 (nI k) (fun _ => if len < 64 then upd bf len (nI k) else bf) bf)))] := zD_of hD rfl
      exact z_iret Z () (by first | rw [zRa_n hrgn] | (rw [zRa_y hk0 hk (by decide)]; first | rw [if_pos (by omega)] | rw [if_neg (by omega)]) | rfl) hP hS dX9_write_56
    · have c_4 := zeq (i := len) (j := 64) (by omega) (by decide) c_4
      refine lv_bipush (v := -4) hx hb dX9_write_29 (by decide) ?_
      have e_7 : nI len = nI (zRa 0 255 (nI k) (fun _ => if len < 64 then len + 1 else len) len) := by first | rw [zRa_n hrgn] | (rw [zRa_y hk0 hk (by decide)]; first | rw [if_pos (by omega)] | rw [if_neg (by omega)]) | rfl
      have hP : va_P D vwCl [(M, .inr (9, [.int (nI 0), .ref mtx, .int (nI (zRa 0 255 (nI k) (fun _ => if len < 64 then len + 1 else len) len)), .int (nI pl), .int rt, .int fr, .int pr, .ref mod_, .int (nI n), .ref mne, .ref mro, .int (nI m), .int rrt, .int rfr, .int rpr, .ref mrod, .int (nI rn9), .ref mrne, .ref mrro, .int (nI rm9), .ref mrp, .ref mpg, .ref mbk, .int (nI ac), .ref mke, .ref mik, .int (nI cr), .ref mrw, .ref mrd, .long sd, .ref mtr, .ref mwo, .ref mnx, .int jr])), (mtx, .inl (cI, 64, .inl bf))] H := Eq.subst (motive := fun zz_ => va_P D vwCl [(M, .inr (9, [.int (nI 0), .ref mtx, .int zz_, .int (nI pl), .int rt, .int fr, .int pr, .ref mod_, .int (nI n), .ref mne, .ref mro, .int (nI m), .int rrt, .int rfr, .int rpr, .ref mrod, .int (nI rn9), .ref mrne, .ref mrro, .int (nI rm9), .ref mrp, .ref mpg, .ref mbk, .int (nI ac), .ref mke, .ref mik, .int (nI cr), .ref mrw, .ref mrd, .long sd, .ref mtr, .ref mwo, .ref mnx, .int jr])), (mtx, .inl (cI, 64, .inl bf))] H) e_7 hP
      have e_8 : bf = zRa 0 255 (nI k) (fun _ => if len < 64 then upd bf len (nI k) else bf) bf := by first | rw [zRa_n hrgn] | (rw [zRa_y hk0 hk (by decide)]; first | rw [if_pos (by omega)] | rw [if_neg (by omega)]) | rfl
      have hP : va_P D vwCl [(M, .inr (9, [.int (nI 0), .ref mtx, .int (nI (zRa 0 255 (nI k) (fun _ => if len < 64 then len + 1 else len) len)), .int (nI pl), .int rt, .int fr, .int pr, .ref mod_, .int (nI n), .ref mne, .ref mro, .int (nI m), .int rrt, .int rfr, .int rpr, .ref mrod, .int (nI rn9), .ref mrne, .ref mrro, .int (nI rm9), .ref mrp, .ref mpg, .ref mbk, .int (nI ac), .ref mke, .ref mik, .int (nI cr), .ref mrw, .ref mrd, .long sd, .ref mtr, .ref mwo, .ref mnx, .int jr])), (mtx, .inl (cI, 64, .inl (zRa 0 255 (nI k) (fun _ => if len < 64 then upd bf len (nI k) else bf) bf)))] H := Eq.subst (motive := fun zz_ => va_P D vwCl [(M, .inr (9, [.int (nI 0), .ref mtx, .int (nI (zRa 0 255 (nI k) (fun _ => if len < 64 then len + 1 else len) len)), .int (nI pl), .int rt, .int fr, .int pr, .ref mod_, .int (nI n), .ref mne, .ref mro, .int (nI m), .int rrt, .int rfr, .int rpr, .ref mrod, .int (nI rn9), .ref mrne, .ref mrro, .int (nI rm9), .ref mrp, .ref mpg, .ref mbk, .int (nI ac), .ref mke, .ref mik, .int (nI cr), .ref mrw, .ref mrd, .long sd, .ref mtr, .ref mwo, .ref mnx, .int jr])), (mtx, .inl (cI, 64, .inl zz_))] H) e_8 hP
      have hD : va_D A [(M, .inr (9, [.int (nI 0), .ref mtx, .int (nI (zRa 0 255 (nI k) (fun _ => if len < 64 then len + 1 else len) len)), .int (nI pl), .int rt, .int fr, .int pr, .ref mod_, .int (nI n), .ref mne, .ref mro, .int (nI m), .int rrt, .int rfr, .int rpr, .ref mrod, .int (nI rn9), .ref mrne, .ref mrro, .int (nI rm9), .ref mrp, .ref mpg, .ref mbk, .int (nI ac), .ref mke, .ref mik, .int (nI cr), .ref mrw, .ref mrd, .long sd, .ref mtr, .ref mwo, .ref mnx, .int jr])), (mtx, .inl (cI, 64, .inl (zRa 0 255 (nI k) (fun _ => if len < 64 then upd bf len (nI k) else bf) bf)))] := zD_of hD rfl
      exact z_iret Z () (by first | rw [zRa_n hrgn] | (rw [zRa_y hk0 hk (by decide)]; first | rw [if_pos (by omega)] | rw [if_neg (by omega)]) | rfl) hP hS dX9_write_31
  · have c_3 := zb0 c_3
    have hrgn := fun q => c_3 ((zinr (x := x1) 0 255 rfl rfl).mpr q)
    refine lv_bipush (v := -2) hx hb dX9_write_17 (by decide) ?_
    have e_9 : nI len = nI (zRa 0 255 x1 (fun _ => if len < 64 then len + 1 else len) len) := by first | rw [zRa_n hrgn] | (rw [zRa_y hk0 hk (by decide)]; first | rw [if_pos (by omega)] | rw [if_neg (by omega)]) | rfl
    have hP : va_P D vwCl [(M, .inr (9, [.int (nI 0), .ref mtx, .int (nI (zRa 0 255 x1 (fun _ => if len < 64 then len + 1 else len) len)), .int (nI pl), .int rt, .int fr, .int pr, .ref mod_, .int (nI n), .ref mne, .ref mro, .int (nI m), .int rrt, .int rfr, .int rpr, .ref mrod, .int (nI rn9), .ref mrne, .ref mrro, .int (nI rm9), .ref mrp, .ref mpg, .ref mbk, .int (nI ac), .ref mke, .ref mik, .int (nI cr), .ref mrw, .ref mrd, .long sd, .ref mtr, .ref mwo, .ref mnx, .int jr])), (mtx, .inl (cI, 64, .inl bf))] H := Eq.subst (motive := fun zz_ => va_P D vwCl [(M, .inr (9, [.int (nI 0), .ref mtx, .int zz_, .int (nI pl), .int rt, .int fr, .int pr, .ref mod_, .int (nI n), .ref mne, .ref mro, .int (nI m), .int rrt, .int rfr, .int rpr, .ref mrod, .int (nI rn9), .ref mrne, .ref mrro, .int (nI rm9), .ref mrp, .ref mpg, .ref mbk, .int (nI ac), .ref mke, .ref mik, .int (nI cr), .ref mrw, .ref mrd, .long sd, .ref mtr, .ref mwo, .ref mnx, .int jr])), (mtx, .inl (cI, 64, .inl bf))] H) e_9 hP
    have e_10 : bf = zRa 0 255 x1 (fun _ => if len < 64 then upd bf len x1 else bf) bf := by first | rw [zRa_n hrgn] | (rw [zRa_y hk0 hk (by decide)]; first | rw [if_pos (by omega)] | rw [if_neg (by omega)]) | rfl
    have hP : va_P D vwCl [(M, .inr (9, [.int (nI 0), .ref mtx, .int (nI (zRa 0 255 x1 (fun _ => if len < 64 then len + 1 else len) len)), .int (nI pl), .int rt, .int fr, .int pr, .ref mod_, .int (nI n), .ref mne, .ref mro, .int (nI m), .int rrt, .int rfr, .int rpr, .ref mrod, .int (nI rn9), .ref mrne, .ref mrro, .int (nI rm9), .ref mrp, .ref mpg, .ref mbk, .int (nI ac), .ref mke, .ref mik, .int (nI cr), .ref mrw, .ref mrd, .long sd, .ref mtr, .ref mwo, .ref mnx, .int jr])), (mtx, .inl (cI, 64, .inl (zRa 0 255 x1 (fun _ => if len < 64 then upd bf len x1 else bf) bf)))] H := Eq.subst (motive := fun zz_ => va_P D vwCl [(M, .inr (9, [.int (nI 0), .ref mtx, .int (nI (zRa 0 255 x1 (fun _ => if len < 64 then len + 1 else len) len)), .int (nI pl), .int rt, .int fr, .int pr, .ref mod_, .int (nI n), .ref mne, .ref mro, .int (nI m), .int rrt, .int rfr, .int rpr, .ref mrod, .int (nI rn9), .ref mrne, .ref mrro, .int (nI rm9), .ref mrp, .ref mpg, .ref mbk, .int (nI ac), .ref mke, .ref mik, .int (nI cr), .ref mrw, .ref mrd, .long sd, .ref mtr, .ref mwo, .ref mnx, .int jr])), (mtx, .inl (cI, 64, .inl zz_))] H) e_10 hP
    have hD : va_D A [(M, .inr (9, [.int (nI 0), .ref mtx, .int (nI (zRa 0 255 x1 (fun _ => if len < 64 then len + 1 else len) len)), .int (nI pl), .int rt, .int fr, .int pr, .ref mod_, .int (nI n), .ref mne, .ref mro, .int (nI m), .int rrt, .int rfr, .int rpr, .ref mrod, .int (nI rn9), .ref mrne, .ref mrro, .int (nI rm9), .ref mrp, .ref mpg, .ref mbk, .int (nI ac), .ref mke, .ref mik, .int (nI cr), .ref mrw, .ref mrd, .long sd, .ref mtr, .ref mwo, .ref mnx, .int jr])), (mtx, .inl (cI, 64, .inl (zRa 0 255 x1 (fun _ => if len < 64 then upd bf len x1 else bf) bf)))] := zD_of hD rfl
    exact z_iret Z () (by first | rw [zRa_n hrgn] | (rw [zRa_y hk0 hk (by decide)]; first | rw [if_pos (by omega)] | rw [if_neg (by omega)]) | rfl) hP hS dX9_write_19

theorem dX9_wipe_0 : decode cX9_wipe 0 = .ok (.aload_n 0, 1) := by decide +kernel
theorem dX9_wipe_1 : decode cX9_wipe 1 = .ok (.iconst 0, 1) := by decide +kernel
theorem dX9_wipe_2 : decode cX9_wipe 2 = .ok (.putfield 62, 3) := by decide +kernel
theorem dX9_wipe_5 : decode cX9_wipe 5 = .ok (.aload_n 0, 1) := by decide +kernel
theorem dX9_wipe_6 : decode cX9_wipe 6 = .ok (.getfield 77, 3) := by decide +kernel
theorem dX9_wipe_9 : decode cX9_wipe 9 = .ok (.istore_n 1, 1) := by decide +kernel
theorem dX9_wipe_10 : decode cX9_wipe 10 = .ok (.aload_n 0, 1) := by decide +kernel
theorem dX9_wipe_11 : decode cX9_wipe 11 = .ok (.iconst 0, 1) := by decide +kernel
theorem dX9_wipe_12 : decode cX9_wipe 12 = .ok (.putfield 77, 3) := by decide +kernel
theorem dX9_wipe_15 : decode cX9_wipe 15 = .ok (.iload_n 1, 1) := by decide +kernel
theorem dX9_wipe_16 : decode cX9_wipe 16 = .ok (.ireturn, 1) := by decide +kernel
theorem zd_X9_wipe : yX9_wipe.cls ≠ "java/lang/invoke/MethodHandle" ∧ yX9_wipe.cls ≠ "java/lang/invoke/VarHandle" ∧ (parseMethodDescriptor yX9_wipe.desc).map (fun d => d.parameters.length) = some 0 := by decide +kernel
set_option maxHeartbeats 4000000 in
set_option maxRecDepth 100000 in
theorem zc_X9_wipe (l : Launch) (D : va_G) (cI cZ : ClassId) (M : Nat) (th : Int32) (mtx : Nat) (len : Nat) (pl : Nat) (rt : Int32) (fr : Int32) (pr : Int32) (mod_ : Nat) (n : Nat) (mne : Nat) (mro : Nat) (m : Nat) (rrt : Int32) (rfr : Int32) (rpr : Int32) (mrod : Nat) (rn9 : Nat) (mrne : Nat) (mrro : Nat) (rm9 : Nat) (mrp : Nat) (mpg : Nat) (mbk : Nat) (ac : Nat) (mke : Nat) (mik : Nat) (cr : Nat) (mrw : Nat) (mrd : Nat) (sd : Int64) (mtr : Nat) (mwo : Nat) (mnx : Nat) (jr : Int32) : zI l yX9_wipe cX9_wipe 2 .int 0 0 D cI cZ [.ref M] [(M, .inr (9, [.int th, .ref mtx, .int (nI len), .int (nI pl), .int rt, .int fr, .int pr, .ref mod_, .int (nI n), .ref mne, .ref mro, .int (nI m), .int rrt, .int rfr, .int rpr, .ref mrod, .int (nI rn9), .ref mrne, .ref mrro, .int (nI rm9), .ref mrp, .ref mpg, .ref mbk, .int (nI ac), .ref mke, .ref mik, .int (nI cr), .ref mrw, .ref mrd, .long sd, .ref mtr, .ref mwo, .ref mnx, .int jr]))] (fun (r : Int32) (u : Unit) => r = nI len) (fun (u : Unit) => [(M, .inr (9, [.int (nI 0), .ref mtx, .int (nI 0), .int (nI pl), .int rt, .int fr, .int pr, .ref mod_, .int (nI n), .ref mne, .ref mro, .int (nI m), .int rrt, .int rfr, .int rpr, .ref mrod, .int (nI rn9), .ref mrne, .ref mrro, .int (nI rm9), .ref mrp, .ref mpg, .ref mbk, .int (nI ac), .ref mke, .ref mik, .int (nI cr), .ref mrw, .ref mrd, .long sd, .ref mtr, .ref mwo, .ref mnx, .int jr]))]) := by
  refine zI_of (by decide) (Nat.le_of_ble_eq_true rfl) ?_
  intro pP eE sS mM aA bB mT cC A ls Z hP hD hS hl
  have hx := Z.1
  have hb := Z.2.1
  have hown := Z.2.2.2.2.2.1
  have hts := Z.2.2.2.2.1
  have Z : zAt pP sS mM aA mT cC D cI cZ A "SurpriseTaxModel" cX9_wipe 2 (some .int) := Z
  have hl : lv_has ls 2 [(0, .ref M)] := hl
  obtain ⟨H, hH⟩ : ∃ H, H = sS.heap := ⟨_, rfl⟩
  have hP : va_P D vwCl [(M, .inr (9, [.int th, .ref mtx, .int (nI len), .int (nI pl), .int rt, .int fr, .int pr, .ref mod_, .int (nI n), .ref mne, .ref mro, .int (nI m), .int rrt, .int rfr, .int rpr, .ref mrod, .int (nI rn9), .ref mrne, .ref mrro, .int (nI rm9), .ref mrp, .ref mpg, .ref mbk, .int (nI ac), .ref mke, .ref mik, .int (nI cr), .ref mrw, .ref mrd, .long sd, .ref mtr, .ref mwo, .ref mnx, .int jr]))] H := by rw [hH]; exact hP
  have hS : va_S A sS.heap H [] := by rw [hH]; exact hS
  rw [← hH]
  clear hH
  obtain ⟨locs, hlo⟩ : ∃ q : List Loc, q = [] := ⟨_, rfl⟩
  rw [← hlo] at hS ⊢
  clear hlo
  refine lv_aload_n hx hb dX9_wipe_0 rfl (lv_at hl 0 rfl) ?_
  refine lv_iconst (v := nI 0) hx hb dX9_wipe_1 (by decide) ?_
  refine z_put (ci := 9) (v := .int (nI 0)) Z zin9 tyX9 tyX9_ok nmX9 hP hD hS 0 rfl rfl 0 (by decide) zm677 rfl rfl rfl rfl (Nat.le_of_ble_eq_true rfl) dX9_wipe_2 (fun H locs hP hD hS => ?_)
  have hP : va_P D vwCl [(M, .inr (9, [.int (nI 0), .ref mtx, .int (nI len), .int (nI pl), .int rt, .int fr, .int pr, .ref mod_, .int (nI n), .ref mne, .ref mro, .int (nI m), .int rrt, .int rfr, .int rpr, .ref mrod, .int (nI rn9), .ref mrne, .ref mrro, .int (nI rm9), .ref mrp, .ref mpg, .ref mbk, .int (nI ac), .ref mke, .ref mik, .int (nI cr), .ref mrw, .ref mrd, .long sd, .ref mtr, .ref mwo, .ref mnx, .int jr]))] H := hP
  have hD : va_D A [(M, .inr (9, [.int (nI 0), .ref mtx, .int (nI len), .int (nI pl), .int rt, .int fr, .int pr, .ref mod_, .int (nI n), .ref mne, .ref mro, .int (nI m), .int rrt, .int rfr, .int rpr, .ref mrod, .int (nI rn9), .ref mrne, .ref mrro, .int (nI rm9), .ref mrp, .ref mpg, .ref mbk, .int (nI ac), .ref mke, .ref mik, .int (nI cr), .ref mrw, .ref mrd, .long sd, .ref mtr, .ref mwo, .ref mnx, .int jr]))] := hD
  refine lv_aload_n hx hb dX9_wipe_5 rfl (lv_at hl 0 rfl) ?_
  refine z_get (ci := 9) (v := .int (nI len)) Z zin9 hP 0 rfl rfl 2 (by decide) zm679 rfl rfl dX9_wipe_6 ?_
  refine lv_istore_n (lv' := [(1, .int (nI len)), (0, .ref M)]) hx hb dX9_wipe_9 rfl hl (by decide) rfl (fun ls hl => ?_)
  refine lv_aload_n hx hb dX9_wipe_10 rfl (lv_at hl 1 rfl) ?_
  refine lv_iconst (v := nI 0) hx hb dX9_wipe_11 (by decide) ?_
  refine z_put (ci := 9) (v := .int (nI 0)) Z zin9 tyX9 tyX9_ok nmX9 hP hD hS 0 rfl rfl 2 (by decide) zm679 rfl rfl rfl rfl (Nat.le_of_ble_eq_true rfl) dX9_wipe_12 (fun H locs hP hD hS => ?_)
  have hP : va_P D vwCl [(M, .inr (9, [.int (nI 0), .ref mtx, .int (nI 0), .int (nI pl), .int rt, .int fr, .int pr, .ref mod_, .int (nI n), .ref mne, .ref mro, .int (nI m), .int rrt, .int rfr, .int rpr, .ref mrod, .int (nI rn9), .ref mrne, .ref mrro, .int (nI rm9), .ref mrp, .ref mpg, .ref mbk, .int (nI ac), .ref mke, .ref mik, .int (nI cr), .ref mrw, .ref mrd, .long sd, .ref mtr, .ref mwo, .ref mnx, .int jr]))] H := hP
  have hD : va_D A [(M, .inr (9, [.int (nI 0), .ref mtx, .int (nI 0), .int (nI pl), .int rt, .int fr, .int pr, .ref mod_, .int (nI n), .ref mne, .ref mro, .int (nI m), .int rrt, .int rfr, .int rpr, .ref mrod, .int (nI rn9), .ref mrne, .ref mrro, .int (nI rm9), .ref mrp, .ref mpg, .ref mbk, .int (nI ac), .ref mke, .ref mik, .int (nI cr), .ref mrw, .ref mrd, .long sd, .ref mtr, .ref mwo, .ref mnx, .int jr]))] := hD
  refine lv_iload_n hx hb dX9_wipe_15 rfl (lv_at hl 0 rfl) ?_
  exact z_iret Z () rfl hP hS dX9_wipe_16

theorem dX9_surprise_0 : decode cX9_surprise 0 = .ok (.iload_n 2, 1) := by decide +kernel
theorem dX9_surprise_1 : decode cX9_surprise 1 = .ok (.bipush (-9), 2) := by decide +kernel
theorem dX9_surprise_3 : decode cX9_surprise 3 = .ok (.if_icmp .eq 18, 3) := by decide +kernel
theorem dX9_surprise_6 : decode cX9_surprise 6 = .ok (.iload_n 2, 1) := by decide +kernel
theorem dX9_surprise_7 : decode cX9_surprise 7 = .ok (.iload_n 1, 1) := by decide +kernel
theorem dX9_surprise_8 : decode cX9_surprise 8 = .ok (.if_icmp .ne 7, 3) := by decide +kernel
theorem dX9_surprise_11 : decode cX9_surprise 11 = .ok (.iconst 0, 1) := by decide +kernel
theorem dX9_surprise_12 : decode cX9_surprise 12 = .ok (.goto 8, 3) := by decide +kernel
theorem dX9_surprise_15 : decode cX9_surprise 15 = .ok (.bipush 10, 2) := by decide +kernel
theorem dX9_surprise_17 : decode cX9_surprise 17 = .ok (.iload 4, 2) := by decide +kernel
theorem dX9_surprise_19 : decode cX9_surprise 19 = .ok (.isub, 1) := by decide +kernel
theorem dX9_surprise_20 : decode cX9_surprise 20 = .ok (.ireturn, 1) := by decide +kernel
theorem dX9_surprise_21 : decode cX9_surprise 21 = .ok (.bipush 10, 2) := by decide +kernel
theorem dX9_surprise_23 : decode cX9_surprise 23 = .ok (.iload_n 0, 1) := by decide +kernel
theorem dX9_surprise_24 : decode cX9_surprise 24 = .ok (.isub, 1) := by decide +kernel
theorem dX9_surprise_25 : decode cX9_surprise 25 = .ok (.iload 4, 2) := by decide +kernel
theorem dX9_surprise_27 : decode cX9_surprise 27 = .ok (.isub, 1) := by decide +kernel
theorem dX9_surprise_28 : decode cX9_surprise 28 = .ok (.ifCond .ge 7, 3) := by decide +kernel
theorem dX9_surprise_31 : decode cX9_surprise 31 = .ok (.iconst 0, 1) := by decide +kernel
theorem dX9_surprise_32 : decode cX9_surprise 32 = .ok (.goto 10, 3) := by decide +kernel
theorem dX9_surprise_35 : decode cX9_surprise 35 = .ok (.bipush 10, 2) := by decide +kernel
theorem dX9_surprise_37 : decode cX9_surprise 37 = .ok (.iload_n 0, 1) := by decide +kernel
theorem dX9_surprise_38 : decode cX9_surprise 38 = .ok (.isub, 1) := by decide +kernel
theorem dX9_surprise_39 : decode cX9_surprise 39 = .ok (.iload 4, 2) := by decide +kernel
theorem dX9_surprise_41 : decode cX9_surprise 41 = .ok (.isub, 1) := by decide +kernel
theorem dX9_surprise_42 : decode cX9_surprise 42 = .ok (.istore 5, 2) := by decide +kernel
theorem dX9_surprise_44 : decode cX9_surprise 44 = .ok (.iload_n 3, 1) := by decide +kernel
theorem dX9_surprise_45 : decode cX9_surprise 45 = .ok (.iload_n 1, 1) := by decide +kernel
theorem dX9_surprise_46 : decode cX9_surprise 46 = .ok (.if_icmp .ne 10, 3) := by decide +kernel
theorem dX9_surprise_49 : decode cX9_surprise 49 = .ok (.iload 5, 2) := by decide +kernel
theorem dX9_surprise_51 : decode cX9_surprise 51 = .ok (.iconst 2, 1) := by decide +kernel
theorem dX9_surprise_52 : decode cX9_surprise 52 = .ok (.idiv, 1) := by decide +kernel
theorem dX9_surprise_53 : decode cX9_surprise 53 = .ok (.goto 5, 3) := by decide +kernel
theorem dX9_surprise_56 : decode cX9_surprise 56 = .ok (.iload 5, 2) := by decide +kernel
theorem dX9_surprise_58 : decode cX9_surprise 58 = .ok (.ireturn, 1) := by decide +kernel
theorem zd_X9_surprise : yX9_surprise.cls ≠ "java/lang/invoke/MethodHandle" ∧ yX9_surprise.cls ≠ "java/lang/invoke/VarHandle" ∧ (parseMethodDescriptor yX9_surprise.desc).map (fun d => d.parameters.length) = some 5 := by decide +kernel
set_option maxHeartbeats 4000000 in
set_option maxRecDepth 100000 in
theorem zc_X9_surprise (l : Launch) (D : va_G) (cI cZ : ClassId) (x : Int32) (k : Nat) (y : Int32) (z : Int32) (fr : Int32) (hk : k < 4) : zI l yX9_surprise cX9_surprise 6 .int 0 0 D cI cZ [.int x, .int (nI k), .int y, .int z, .int fr] [] (fun (r : Int32) (u : Unit) => r = zsu x y z (nI k) fr) (fun (u : Unit) => []) := by
  refine zI_of (by decide) (Nat.le_of_ble_eq_true rfl) ?_
  intro pP eE sS mM aA bB mT cC A ls Z hP hD hS hl
  have hx := Z.1
  have hb := Z.2.1
  have hown := Z.2.2.2.2.2.1
  have hts := Z.2.2.2.2.1
  have Z : zAt pP sS mM aA mT cC D cI cZ A "SurpriseTaxModel" cX9_surprise 6 (some .int) := Z
  have hl : lv_has ls 6 [(0, .int x), (1, .int (nI k)), (2, .int y), (3, .int z), (4, .int fr)] := hl
  obtain ⟨H, hH⟩ : ∃ H, H = sS.heap := ⟨_, rfl⟩
  have hP : va_P D vwCl [] H := by rw [hH]; exact hP
  have hS : va_S A sS.heap H [] := by rw [hH]; exact hS
  rw [← hH]
  clear hH
  obtain ⟨locs, hlo⟩ : ∃ q : List Loc, q = [] := ⟨_, rfl⟩
  rw [← hlo] at hS ⊢
  clear hlo
  refine lv_iload_n hx hb dX9_surprise_0 rfl (lv_at hl 2 rfl) ?_
  refine lv_bipush (v := -9) hx hb dX9_surprise_1 (by decide) ?_
  refine lv_icmp_eq (tgt := 21) hx hb dX9_surprise_3 (by decide) (fun c_1 => ?_) (fun c_1 => ?_)
  · have c_1 : y = (-9) := c_1
    refine z_cut (fun H locs ls => va_P D vwCl [] H ∧ va_D A [] ∧ va_S A sS.heap H locs ∧ lv_has ls 6 [(0, .int x), (1, .int (nI k)), (2, .int y), (3, .int z), (4, .int fr)]) 42 [.int (if 0 < 10 - x - fr then 10 - x - fr else 0)] (fun H locs ls hI => ?_) (fun k_2 => ?_)
    · obtain ⟨hP, hD, hS, hl⟩ := hI
      refine lv_istore (lv' := [(5, .int (if 0 < 10 - x - fr then 10 - x - fr else 0)), (0, .int x), (1, .int (nI k)), (2, .int y), (3, .int z), (4, .int fr)]) hx hb dX9_surprise_42 hl (by decide) rfl (fun ls hl => ?_)
      refine lv_iload_n hx hb dX9_surprise_44 rfl (lv_at hl 4 rfl) ?_
      refine lv_iload_n hx hb dX9_surprise_45 rfl (lv_at hl 2 rfl) ?_
      refine lv_icmp_ne (tgt := 56) hx hb dX9_surprise_46 (by decide) (fun c_3 => ?_) (fun c_3 => ?_)
      · have c_3 : ¬ (z = (nI k)) := c_3
        refine lv_iload hx hb dX9_surprise_56 (lv_at hl 0 rfl) ?_
        exact z_iret Z () (by first | exact zsu_a hk (by assumption) (by assumption) | exact zsu_b hk (by assumption) (by assumption) | exact zsu_c hk (by assumption) (by assumption) | exact zsu_d hk (by assumption) (by assumption)) hP hS dX9_surprise_58
      · have c_3 : z = (nI k) := c_3
        refine lv_iload hx hb dX9_surprise_49 (lv_at hl 0 rfl) ?_
        refine lv_iconst (v := nI 2) hx hb dX9_surprise_51 (by decide) ?_
        refine lv_idiv hx hb dX9_surprise_52 (by decide) ?_
        refine z_top (y := (if 0 < 10 - x - fr then 10 - x - fr else 0) / 2) rfl ?_
        refine lv_goto (tgt := 58) hx hb dX9_surprise_53 (by decide) ?_
        exact z_iret Z () (by first | exact zsu_a hk (by assumption) (by assumption) | exact zsu_b hk (by assumption) (by assumption) | exact zsu_c hk (by assumption) (by assumption) | exact zsu_d hk (by assumption) (by assumption)) hP hS dX9_surprise_58
    · skip
      refine lv_bipush (v := nI 10) hx hb dX9_surprise_21 (by decide) ?_
      refine lv_iload_n hx hb dX9_surprise_23 rfl (lv_at hl 0 rfl) ?_
      refine lv_isub hx hb dX9_surprise_24 ?_
      refine z_top (y := 10 - x) rfl ?_
      refine lv_iload hx hb dX9_surprise_25 (lv_at hl 4 rfl) ?_
      refine lv_isub hx hb dX9_surprise_27 ?_
      refine z_top (y := (10 - x) - fr) rfl ?_
      refine lv_if_ge (tgt := 35) hx hb dX9_surprise_28 (by decide) (fun c_4 => ?_) (fun c_4 => ?_)
      · have c_4 : 0 ≤ ((10 - x) - fr) := c_4
        refine lv_bipush (v := nI 10) hx hb dX9_surprise_35 (by decide) ?_
        refine lv_iload_n hx hb dX9_surprise_37 rfl (lv_at hl 0 rfl) ?_
        refine lv_isub hx hb dX9_surprise_38 ?_
        refine z_top (y := 10 - x) rfl ?_
        refine lv_iload hx hb dX9_surprise_39 (lv_at hl 4 rfl) ?_
        refine lv_isub hx hb dX9_surprise_41 ?_
        refine z_top (y := (10 - x) - fr) rfl ?_
        have hl : lv_has ls 6 [(0, .int x), (1, .int (nI k)), (2, .int y), (3, .int z), (4, .int fr)] := lv_sub hl [0, 1, 2, 3, 4] rfl
        refine z_top (y := if 0 < 10 - x - fr then 10 - x - fr else 0) (by first | exact zps_a (by assumption) | exact zps_b (by assumption)) ?_
        exact k_2 _ _ _ ⟨hP, hD, hS, hl⟩
      · have c_4 : ¬ (0 ≤ ((10 - x) - fr)) := c_4
        refine lv_iconst (v := nI 0) hx hb dX9_surprise_31 (by decide) ?_
        refine lv_goto (tgt := 42) hx hb dX9_surprise_32 (by decide) ?_
        have hl : lv_has ls 6 [(0, .int x), (1, .int (nI k)), (2, .int y), (3, .int z), (4, .int fr)] := lv_sub hl [0, 1, 2, 3, 4] rfl
        refine z_top (y := if 0 < 10 - x - fr then 10 - x - fr else 0) (by first | exact zps_a (by assumption) | exact zps_b (by assumption)) ?_
        exact k_2 _ _ _ ⟨hP, hD, hS, hl⟩
  · have c_1 : ¬ (y = (-9)) := c_1
    refine lv_iload_n hx hb dX9_surprise_6 rfl (lv_at hl 2 rfl) ?_
    refine lv_iload_n hx hb dX9_surprise_7 rfl (lv_at hl 1 rfl) ?_
    refine lv_icmp_ne (tgt := 15) hx hb dX9_surprise_8 (by decide) (fun c_5 => ?_) (fun c_5 => ?_)
    · have c_5 : ¬ (y = (nI k)) := c_5
      refine lv_bipush (v := nI 10) hx hb dX9_surprise_15 (by decide) ?_
      refine lv_iload hx hb dX9_surprise_17 (lv_at hl 4 rfl) ?_
      refine lv_isub hx hb dX9_surprise_19 ?_
      refine z_top (y := 10 - fr) rfl ?_
      exact z_iret Z () (by first | exact zsu_a hk (by assumption) (by assumption) | exact zsu_b hk (by assumption) (by assumption) | exact zsu_c hk (by assumption) (by assumption) | exact zsu_d hk (by assumption) (by assumption)) hP hS dX9_surprise_20
    · have c_5 : y = (nI k) := c_5
      refine lv_iconst (v := nI 0) hx hb dX9_surprise_11 (by decide) ?_
      refine lv_goto (tgt := 20) hx hb dX9_surprise_12 (by decide) ?_
      exact z_iret Z () (by first | exact zsu_a hk (by assumption) (by assumption) | exact zsu_b hk (by assumption) (by assumption) | exact zsu_c hk (by assumption) (by assumption) | exact zsu_d hk (by assumption) (by assumption)) hP hS dX9_surprise_20

theorem dX9_debtOf_0 : decode cX9_debtOf 0 = .ok (.iconst 0, 1) := by decide +kernel
theorem dX9_debtOf_1 : decode cX9_debtOf 1 = .ok (.istore_n 2, 1) := by decide +kernel
theorem dX9_debtOf_2 : decode cX9_debtOf 2 = .ok (.iconst 0, 1) := by decide +kernel
theorem dX9_debtOf_3 : decode cX9_debtOf 3 = .ok (.istore_n 3, 1) := by decide +kernel
theorem dX9_debtOf_4 : decode cX9_debtOf 4 = .ok (.iload_n 3, 1) := by decide +kernel
theorem dX9_debtOf_5 : decode cX9_debtOf 5 = .ok (.aload_n 0, 1) := by decide +kernel
theorem dX9_debtOf_6 : decode cX9_debtOf 6 = .ok (.getfield 66, 3) := by decide +kernel
theorem dX9_debtOf_9 : decode cX9_debtOf 9 = .ok (.if_icmp .ge 30, 3) := by decide +kernel
theorem dX9_debtOf_12 : decode cX9_debtOf 12 = .ok (.iload_n 2, 1) := by decide +kernel
theorem dX9_debtOf_13 : decode cX9_debtOf 13 = .ok (.aload_n 1, 1) := by decide +kernel
theorem dX9_debtOf_14 : decode cX9_debtOf 14 = .ok (.bipush 7, 2) := by decide +kernel
theorem dX9_debtOf_16 : decode cX9_debtOf 16 = .ok (.iload_n 3, 1) := by decide +kernel
theorem dX9_debtOf_17 : decode cX9_debtOf 17 = .ok (.imul, 1) := by decide +kernel
theorem dX9_debtOf_18 : decode cX9_debtOf 18 = .ok (.iconst 4, 1) := by decide +kernel
theorem dX9_debtOf_19 : decode cX9_debtOf 19 = .ok (.iadd, 1) := by decide +kernel
theorem dX9_debtOf_20 : decode cX9_debtOf 20 = .ok (.iaload, 1) := by decide +kernel
theorem dX9_debtOf_21 : decode cX9_debtOf 21 = .ok (.ifCond .ge 9, 3) := by decide +kernel
theorem dX9_debtOf_24 : decode cX9_debtOf 24 = .ok (.iconst 1, 1) := by decide +kernel
theorem dX9_debtOf_25 : decode cX9_debtOf 25 = .ok (.iload_n 3, 1) := by decide +kernel
theorem dX9_debtOf_26 : decode cX9_debtOf 26 = .ok (.ishl, 1) := by decide +kernel
theorem dX9_debtOf_27 : decode cX9_debtOf 27 = .ok (.goto 4, 3) := by decide +kernel
theorem dX9_debtOf_30 : decode cX9_debtOf 30 = .ok (.iconst 0, 1) := by decide +kernel
theorem dX9_debtOf_31 : decode cX9_debtOf 31 = .ok (.ior, 1) := by decide +kernel
theorem dX9_debtOf_32 : decode cX9_debtOf 32 = .ok (.istore_n 2, 1) := by decide +kernel
theorem dX9_debtOf_33 : decode cX9_debtOf 33 = .ok (.iinc 3 1, 3) := by decide +kernel
theorem dX9_debtOf_36 : decode cX9_debtOf 36 = .ok (.goto (-32), 3) := by decide +kernel
theorem dX9_debtOf_39 : decode cX9_debtOf 39 = .ok (.iload_n 2, 1) := by decide +kernel
theorem dX9_debtOf_40 : decode cX9_debtOf 40 = .ok (.ireturn, 1) := by decide +kernel
theorem zd_X9_debtOf : yX9_debtOf.cls ≠ "java/lang/invoke/MethodHandle" ∧ yX9_debtOf.cls ≠ "java/lang/invoke/VarHandle" ∧ (parseMethodDescriptor yX9_debtOf.desc).map (fun d => d.parameters.length) = some 1 := by decide +kernel
set_option maxHeartbeats 4000000 in
set_option maxRecDepth 100000 in
theorem zc_X9_debtOf (l : Launch) (D : va_G) (cI cZ : ClassId) (M : Nat) (th : Int32) (mtx : Nat) (len : Nat) (pl : Nat) (rt : Int32) (fr : Int32) (pr : Int32) (mod_ : Nat) (n : Nat) (mne : Nat) (mro : Nat) (m : Nat) (rrt : Int32) (rfr : Int32) (rpr : Int32) (mrod : Nat) (rn9 : Nat) (mrne : Nat) (mrro : Nat) (rm9 : Nat) (mrp : Nat) (mpg : Nat) (mbk : Nat) (ac : Nat) (mke : Nat) (mik : Nat) (cr : Nat) (mrw : Nat) (mrd : Nat) (sd : Int64) (mtr : Nat) (mwo : Nat) (mnx : Nat) (jr : Int32) (q1 : Nat) (g : Nat → Int32) (f : Nat → Int32) (hn : n ≤ 5) (hco : ∀ p, p < n → g (7 * p + 4) = f (20 + p)) : zI l yX9_debtOf cX9_debtOf 4 .int 0 0 D cI cZ [.ref M, .ref q1] [(M, .inr (9, [.int th, .ref mtx, .int (nI len), .int (nI pl), .int rt, .int fr, .int pr, .ref mod_, .int (nI n), .ref mne, .ref mro, .int (nI m), .int rrt, .int rfr, .int rpr, .ref mrod, .int (nI rn9), .ref mrne, .ref mrro, .int (nI rm9), .ref mrp, .ref mpg, .ref mbk, .int (nI ac), .ref mke, .ref mik, .int (nI cr), .ref mrw, .ref mrd, .long sd, .ref mtr, .ref mwo, .ref mnx, .int jr])), (q1, .inl (cI, 36, .inl g))] (fun (r : Int32) (u : Unit) => r = zdb f n) (fun (u : Unit) => [(M, .inr (9, [.int th, .ref mtx, .int (nI len), .int (nI pl), .int rt, .int fr, .int pr, .ref mod_, .int (nI n), .ref mne, .ref mro, .int (nI m), .int rrt, .int rfr, .int rpr, .ref mrod, .int (nI rn9), .ref mrne, .ref mrro, .int (nI rm9), .ref mrp, .ref mpg, .ref mbk, .int (nI ac), .ref mke, .ref mik, .int (nI cr), .ref mrw, .ref mrd, .long sd, .ref mtr, .ref mwo, .ref mnx, .int jr])), (q1, .inl (cI, 36, .inl g))]) := by
  refine zI_of (by decide) (Nat.le_of_ble_eq_true rfl) ?_
  intro pP eE sS mM aA bB mT cC A ls Z hP hD hS hl
  have hx := Z.1
  have hb := Z.2.1
  have hown := Z.2.2.2.2.2.1
  have hts := Z.2.2.2.2.1
  have Z : zAt pP sS mM aA mT cC D cI cZ A "SurpriseTaxModel" cX9_debtOf 4 (some .int) := Z
  have hl : lv_has ls 4 [(0, .ref M), (1, .ref q1)] := hl
  obtain ⟨H, hH⟩ : ∃ H, H = sS.heap := ⟨_, rfl⟩
  have hP : va_P D vwCl [(M, .inr (9, [.int th, .ref mtx, .int (nI len), .int (nI pl), .int rt, .int fr, .int pr, .ref mod_, .int (nI n), .ref mne, .ref mro, .int (nI m), .int rrt, .int rfr, .int rpr, .ref mrod, .int (nI rn9), .ref mrne, .ref mrro, .int (nI rm9), .ref mrp, .ref mpg, .ref mbk, .int (nI ac), .ref mke, .ref mik, .int (nI cr), .ref mrw, .ref mrd, .long sd, .ref mtr, .ref mwo, .ref mnx, .int jr])), (q1, .inl (cI, 36, .inl g))] H := by rw [hH]; exact hP
  have hS : va_S A sS.heap H [] := by rw [hH]; exact hS
  rw [← hH]
  clear hH
  obtain ⟨locs, hlo⟩ : ∃ q : List Loc, q = [] := ⟨_, rfl⟩
  rw [← hlo] at hS ⊢
  clear hlo
  refine lv_iconst (v := nI 0) hx hb dX9_debtOf_0 (by decide) ?_
  refine lv_istore_n (lv' := [(2, .int (nI 0)), (0, .ref M), (1, .ref q1)]) hx hb dX9_debtOf_1 rfl hl (by decide) rfl (fun ls hl => ?_)
  refine lv_iconst (v := nI 0) hx hb dX9_debtOf_2 (by decide) ?_
  refine lv_istore_n (lv' := [(3, .int (nI 0)), (2, .int (nI 0)), (0, .ref M), (1, .ref q1)]) hx hb dX9_debtOf_3 rfl hl (by decide) rfl (fun ls hl => ?_)
  have hl : lv_has ls 4 [(3, .int (nI 0)), (2, .int (nI 0)), (0, .ref M), (1, .ref q1)] := lv_sub hl [0, 1, 2, 3] rfl
  have e_2 : nI 0 = zdb f 0 := by rfl
  have hl : lv_has ls 4 [(3, .int (nI 0)), (2, .int (zdb f 0)), (0, .ref M), (1, .ref q1)] := Eq.subst (motive := fun zz_ => lv_has ls 4 [(3, .int (nI 0)), (2, .int zz_), (0, .ref M), (1, .ref q1)]) e_2 hl
  refine z_loop (fun i H locs ls => va_P D vwCl [(M, .inr (9, [.int th, .ref mtx, .int (nI len), .int (nI pl), .int rt, .int fr, .int pr, .ref mod_, .int (nI n), .ref mne, .ref mro, .int (nI m), .int rrt, .int rfr, .int rpr, .ref mrod, .int (nI rn9), .ref mrne, .ref mrro, .int (nI rm9), .ref mrp, .ref mpg, .ref mbk, .int (nI ac), .ref mke, .ref mik, .int (nI cr), .ref mrw, .ref mrd, .long sd, .ref mtr, .ref mwo, .ref mnx, .int jr])), (q1, .inl (cI, 36, .inl g))] H ∧ va_D A [(M, .inr (9, [.int th, .ref mtx, .int (nI len), .int (nI pl), .int rt, .int fr, .int pr, .ref mod_, .int (nI n), .ref mne, .ref mro, .int (nI m), .int rrt, .int rfr, .int rpr, .ref mrod, .int (nI rn9), .ref mrne, .ref mrro, .int (nI rm9), .ref mrp, .ref mpg, .ref mbk, .int (nI ac), .ref mke, .ref mik, .int (nI cr), .ref mrw, .ref mrd, .long sd, .ref mtr, .ref mwo, .ref mnx, .int jr])), (q1, .inl (cI, 36, .inl g))] ∧ va_S A sS.heap H locs ∧ lv_has ls 4 [(3, .int (nI i)), (2, .int (zdb f i)), (0, .ref M), (1, .ref q1)]) (n) (lo := 0) (by omega) ⟨hP, hD, hS, hl⟩ (fun i hi_i ih_1 H locs ls hI => ?_)
  obtain ⟨hP, hD, hS, hl⟩ := hI
  have hP : va_P D vwCl [(M, .inr (9, [.int th, .ref mtx, .int (nI len), .int (nI pl), .int rt, .int fr, .int pr, .ref mod_, .int (nI n), .ref mne, .ref mro, .int (nI m), .int rrt, .int rfr, .int rpr, .ref mrod, .int (nI rn9), .ref mrne, .ref mrro, .int (nI rm9), .ref mrp, .ref mpg, .ref mbk, .int (nI ac), .ref mke, .ref mik, .int (nI cr), .ref mrw, .ref mrd, .long sd, .ref mtr, .ref mwo, .ref mnx, .int jr])), (q1, .inl (cI, 36, .inl g))] H := hP
  have hD : va_D A [(M, .inr (9, [.int th, .ref mtx, .int (nI len), .int (nI pl), .int rt, .int fr, .int pr, .ref mod_, .int (nI n), .ref mne, .ref mro, .int (nI m), .int rrt, .int rfr, .int rpr, .ref mrod, .int (nI rn9), .ref mrne, .ref mrro, .int (nI rm9), .ref mrp, .ref mpg, .ref mbk, .int (nI ac), .ref mke, .ref mik, .int (nI cr), .ref mrw, .ref mrd, .long sd, .ref mtr, .ref mwo, .ref mnx, .int jr])), (q1, .inl (cI, 36, .inl g))] := hD
  have hl : lv_has ls 4 [(3, .int (nI i)), (2, .int (zdb f i)), (0, .ref M), (1, .ref q1)] := hl
  refine lv_iload_n hx hb dX9_debtOf_4 rfl (lv_at hl 0 rfl) ?_
  refine lv_aload_n hx hb dX9_debtOf_5 rfl (lv_at hl 2 rfl) ?_
  refine z_get (ci := 9) (v := .int (nI n)) Z zin9 hP 0 rfl rfl 8 (by decide) zm685 rfl rfl dX9_debtOf_6 ?_
  refine lv_icmp_ge (tgt := 39) hx hb dX9_debtOf_9 (by decide) (fun c_3 => ?_) (fun c_3 => ?_)
  · have c_3 := zle (i := n) (j := i) (by omega) (by omega) c_3
    have hE_ : n = i := by omega
    subst hE_
    refine lv_iload_n hx hb dX9_debtOf_39 rfl (lv_at hl 1 rfl) ?_
    exact z_iret Z () rfl hP hS dX9_debtOf_40
  · have c_3 := znle (i := n) (j := i) (by omega) (by omega) c_3
    refine lv_iload_n hx hb dX9_debtOf_12 rfl (lv_at hl 1 rfl) ?_
    refine lv_aload_n hx hb dX9_debtOf_13 rfl (lv_at hl 3 rfl) ?_
    refine lv_bipush (v := nI 7) hx hb dX9_debtOf_14 (by decide) ?_
    refine lv_iload_n hx hb dX9_debtOf_16 rfl (lv_at hl 0 rfl) ?_
    refine lv_imul hx hb dX9_debtOf_17 ?_
    refine z_top (y := nI (7 * i)) (z_mul _ _) ?_
    refine lv_iconst (v := nI 4) hx hb dX9_debtOf_18 (by decide) ?_
    refine lv_iadd hx hb dX9_debtOf_19 ?_
    refine z_top (y := nI (7 * i + 4)) (z_add _ _) ?_
    refine z_iald (n := 36) (f := g) (j := 7 * i + 4) Z hP 1 rfl (by omega) (by decide) dX9_debtOf_20 ?_
    refine lv_if_ge (tgt := 30) hx hb dX9_debtOf_21 (by decide) (fun c_4 => ?_) (fun c_4 => ?_)
    · have c_4 : 0 ≤ (g (7 * i + 4)) := c_4
      refine lv_iconst (v := nI 0) hx hb dX9_debtOf_30 (by decide) ?_
      refine lv_ior hx hb dX9_debtOf_31 ?_
      refine z_top (y := (zdb f i) ||| 0) rfl ?_
      refine lv_istore_n (lv' := [(2, .int ((zdb f i) ||| 0)), (3, .int (nI i)), (0, .ref M), (1, .ref q1)]) hx hb dX9_debtOf_32 rfl hl (by decide) rfl (fun ls hl => ?_)
      refine lv_iinc (v := nI (i + 1)) (lv' := [(3, .int (nI (i + 1))), (2, .int ((zdb f i) ||| 0)), (0, .ref M), (1, .ref q1)]) hx hb dX9_debtOf_33 hl (k := 1) rfl (z_inc _ 1) (by decide) rfl (fun ls hl => ?_)
      refine lv_goto (tgt := 4) hx hb dX9_debtOf_36 (by decide) ?_
      have hl : lv_has ls 4 [(3, .int (nI (i + 1))), (2, .int ((zdb f i) ||| 0)), (0, .ref M), (1, .ref q1)] := lv_sub hl [0, 1, 2, 3] rfl
      have e_5 : (zdb f i) ||| 0 = zdb f (i + 1) := by first | exact zdb_T (hco i (by omega)) (by assumption) | exact zdb_F (hco i (by omega)) (by assumption) | rfl
      have hl : lv_has ls 4 [(3, .int (nI (i + 1))), (2, .int (zdb f (i + 1))), (0, .ref M), (1, .ref q1)] := Eq.subst (motive := fun zz_ => lv_has ls 4 [(3, .int (nI (i + 1))), (2, .int zz_), (0, .ref M), (1, .ref q1)]) e_5 hl
      exact ih_1 _ _ _ (by omega) ⟨hP, hD, hS, hl⟩
    · have c_4 : ¬ (0 ≤ (g (7 * i + 4))) := c_4
      refine lv_iconst (v := nI 1) hx hb dX9_debtOf_24 (by decide) ?_
      refine lv_iload_n hx hb dX9_debtOf_25 rfl (lv_at hl 0 rfl) ?_
      refine lv_ishl hx hb dX9_debtOf_26 ?_
      refine z_top (y := (1 : Int32) <<< ((nI i) &&& 31)) rfl ?_
      refine z_top (y := zbit i) (rfl) ?_
      refine lv_goto (tgt := 31) hx hb dX9_debtOf_27 (by decide) ?_
      refine lv_ior hx hb dX9_debtOf_31 ?_
      refine z_top (y := (zdb f i) ||| (zbit i)) rfl ?_
      refine lv_istore_n (lv' := [(2, .int ((zdb f i) ||| (zbit i))), (3, .int (nI i)), (0, .ref M), (1, .ref q1)]) hx hb dX9_debtOf_32 rfl hl (by decide) rfl (fun ls hl => ?_)
      refine lv_iinc (v := nI (i + 1)) (lv' := [(3, .int (nI (i + 1))), (2, .int ((zdb f i) ||| (zbit i))), (0, .ref M), (1, .ref q1)]) hx hb dX9_debtOf_33 hl (k := 1) rfl (z_inc _ 1) (by decide) rfl (fun ls hl => ?_)
      refine lv_goto (tgt := 4) hx hb dX9_debtOf_36 (by decide) ?_
      have hl : lv_has ls 4 [(3, .int (nI (i + 1))), (2, .int ((zdb f i) ||| (zbit i))), (0, .ref M), (1, .ref q1)] := lv_sub hl [0, 1, 2, 3] rfl
      have e_6 : (zdb f i) ||| (zbit i) = zdb f (i + 1) := by first | exact zdb_T (hco i (by omega)) (by assumption) | exact zdb_F (hco i (by omega)) (by assumption) | rfl
      have hl : lv_has ls 4 [(3, .int (nI (i + 1))), (2, .int (zdb f (i + 1))), (0, .ref M), (1, .ref q1)] := Eq.subst (motive := fun zz_ => lv_has ls 4 [(3, .int (nI (i + 1))), (2, .int zz_), (0, .ref M), (1, .ref q1)]) e_6 hl
      exact ih_1 _ _ _ (by omega) ⟨hP, hD, hS, hl⟩

theorem dX9_about_0 : decode cX9_about 0 = .ok (.aload_n 0, 1) := by decide +kernel
theorem dX9_about_1 : decode cX9_about 1 = .ok (.iconst 0, 1) := by decide +kernel
theorem dX9_about_2 : decode cX9_about 2 = .ok (.putfield 62, 3) := by decide +kernel
theorem dX9_about_5 : decode cX9_about 5 = .ok (.iload_n 1, 1) := by decide +kernel
theorem dX9_about_6 : decode cX9_about 6 = .ok (.tableswitch 153 0 10 #[58, 63, 68, 73, 78, 116, 124, 133, 138, 143, 148], 58) := by decide +kernel
theorem dX9_about_64 : decode cX9_about 64 = .ok (.aload_n 0, 1) := by decide +kernel
theorem dX9_about_65 : decode cX9_about 65 = .ok (.getfield 66, 3) := by decide +kernel
theorem dX9_about_68 : decode cX9_about 68 = .ok (.ireturn, 1) := by decide +kernel
theorem dX9_about_69 : decode cX9_about 69 = .ok (.aload_n 0, 1) := by decide +kernel
theorem dX9_about_70 : decode cX9_about 70 = .ok (.getfield 125, 3) := by decide +kernel
theorem dX9_about_73 : decode cX9_about 73 = .ok (.ireturn, 1) := by decide +kernel
theorem dX9_about_74 : decode cX9_about 74 = .ok (.aload_n 0, 1) := by decide +kernel
theorem dX9_about_75 : decode cX9_about 75 = .ok (.getfield 128, 3) := by decide +kernel
theorem dX9_about_78 : decode cX9_about 78 = .ok (.ireturn, 1) := by decide +kernel
theorem dX9_about_79 : decode cX9_about 79 = .ok (.aload_n 0, 1) := by decide +kernel
theorem dX9_about_80 : decode cX9_about 80 = .ok (.getfield 131, 3) := by decide +kernel
theorem dX9_about_83 : decode cX9_about 83 = .ok (.ireturn, 1) := by decide +kernel
theorem dX9_about_84 : decode cX9_about 84 = .ok (.sipush 1000, 3) := by decide +kernel
theorem dX9_about_87 : decode cX9_about 87 = .ok (.aload_n 0, 1) := by decide +kernel
theorem dX9_about_88 : decode cX9_about 88 = .ok (.getfield 13, 3) := by decide +kernel
theorem dX9_about_91 : decode cX9_about 91 = .ok (.iconst 0, 1) := by decide +kernel
theorem dX9_about_92 : decode cX9_about 92 = .ok (.iaload, 1) := by decide +kernel
theorem dX9_about_93 : decode cX9_about 93 = .ok (.imul, 1) := by decide +kernel
theorem dX9_about_94 : decode cX9_about 94 = .ok (.bipush 100, 2) := by decide +kernel
theorem dX9_about_96 : decode cX9_about 96 = .ok (.aload_n 0, 1) := by decide +kernel
theorem dX9_about_97 : decode cX9_about 97 = .ok (.getfield 13, 3) := by decide +kernel
theorem dX9_about_100 : decode cX9_about 100 = .ok (.iconst 1, 1) := by decide +kernel
theorem dX9_about_101 : decode cX9_about 101 = .ok (.iaload, 1) := by decide +kernel
theorem dX9_about_102 : decode cX9_about 102 = .ok (.imul, 1) := by decide +kernel
theorem dX9_about_103 : decode cX9_about 103 = .ok (.iadd, 1) := by decide +kernel
theorem dX9_about_104 : decode cX9_about 104 = .ok (.bipush 10, 2) := by decide +kernel
theorem dX9_about_106 : decode cX9_about 106 = .ok (.aload_n 0, 1) := by decide +kernel
theorem dX9_about_107 : decode cX9_about 107 = .ok (.getfield 13, 3) := by decide +kernel
theorem dX9_about_110 : decode cX9_about 110 = .ok (.iconst 2, 1) := by decide +kernel
theorem dX9_about_111 : decode cX9_about 111 = .ok (.iaload, 1) := by decide +kernel
theorem dX9_about_112 : decode cX9_about 112 = .ok (.imul, 1) := by decide +kernel
theorem dX9_about_113 : decode cX9_about 113 = .ok (.iadd, 1) := by decide +kernel
theorem dX9_about_114 : decode cX9_about 114 = .ok (.aload_n 0, 1) := by decide +kernel
theorem dX9_about_115 : decode cX9_about 115 = .ok (.getfield 13, 3) := by decide +kernel
theorem dX9_about_118 : decode cX9_about 118 = .ok (.iconst 3, 1) := by decide +kernel
theorem dX9_about_119 : decode cX9_about 119 = .ok (.iaload, 1) := by decide +kernel
theorem dX9_about_120 : decode cX9_about 120 = .ok (.iadd, 1) := by decide +kernel
theorem dX9_about_121 : decode cX9_about 121 = .ok (.ireturn, 1) := by decide +kernel
theorem dX9_about_122 : decode cX9_about 122 = .ok (.aload_n 0, 1) := by decide +kernel
theorem dX9_about_123 : decode cX9_about 123 = .ok (.getfield 34, 3) := by decide +kernel
theorem dX9_about_126 : decode cX9_about 126 = .ok (.bipush 35, 2) := by decide +kernel
theorem dX9_about_128 : decode cX9_about 128 = .ok (.iaload, 1) := by decide +kernel
theorem dX9_about_129 : decode cX9_about 129 = .ok (.ireturn, 1) := by decide +kernel
theorem dX9_about_130 : decode cX9_about 130 = .ok (.aload_n 0, 1) := by decide +kernel
theorem dX9_about_131 : decode cX9_about 131 = .ok (.aload_n 0, 1) := by decide +kernel
theorem dX9_about_132 : decode cX9_about 132 = .ok (.getfield 34, 3) := by decide +kernel
theorem dX9_about_135 : decode cX9_about 135 = .ok (.invokevirtual 140, 3) := by decide +kernel
theorem dX9_about_138 : decode cX9_about 138 = .ok (.ireturn, 1) := by decide +kernel
theorem dX9_about_139 : decode cX9_about 139 = .ok (.aload_n 0, 1) := by decide +kernel
theorem dX9_about_140 : decode cX9_about 140 = .ok (.getfield 134, 3) := by decide +kernel
theorem dX9_about_143 : decode cX9_about 143 = .ok (.ireturn, 1) := by decide +kernel
theorem dX9_about_144 : decode cX9_about 144 = .ok (.aload_n 0, 1) := by decide +kernel
theorem dX9_about_145 : decode cX9_about 145 = .ok (.getfield 137, 3) := by decide +kernel
theorem dX9_about_148 : decode cX9_about 148 = .ok (.ireturn, 1) := by decide +kernel
theorem dX9_about_149 : decode cX9_about 149 = .ok (.aload_n 0, 1) := by decide +kernel
theorem dX9_about_150 : decode cX9_about 150 = .ok (.getfield 144, 3) := by decide +kernel
theorem dX9_about_153 : decode cX9_about 153 = .ok (.ireturn, 1) := by decide +kernel
theorem dX9_about_154 : decode cX9_about 154 = .ok (.aload_n 0, 1) := by decide +kernel
theorem dX9_about_155 : decode cX9_about 155 = .ok (.getfield 77, 3) := by decide +kernel
theorem dX9_about_158 : decode cX9_about 158 = .ok (.ireturn, 1) := by decide +kernel
theorem dX9_about_159 : decode cX9_about 159 = .ok (.bipush (-2), 2) := by decide +kernel
theorem dX9_about_161 : decode cX9_about 161 = .ok (.ireturn, 1) := by decide +kernel
theorem zd_X9_about : yX9_about.cls ≠ "java/lang/invoke/MethodHandle" ∧ yX9_about.cls ≠ "java/lang/invoke/VarHandle" ∧ (parseMethodDescriptor yX9_about.desc).map (fun d => d.parameters.length) = some 1 := by decide +kernel
set_option maxHeartbeats 4000000 in
set_option maxRecDepth 100000 in
theorem zc_X9_about (l : Launch) (D : va_G) (cI cZ : ClassId) (M : Nat) (th : Int32) (mtx : Nat) (len : Nat) (pl : Nat) (rt : Int32) (fr : Int32) (pr : Int32) (mod_ : Nat) (n : Nat) (mne : Nat) (mro : Nat) (m : Nat) (rrt : Int32) (rfr : Int32) (rpr : Int32) (mrod : Nat) (rn9 : Nat) (mrne : Nat) (mrro : Nat) (rm9 : Nat) (mrp : Nat) (mpg : Nat) (mbk : Nat) (ac : Nat) (mke : Nat) (mik : Nat) (cr : Nat) (mrw : Nat) (mrd : Nat) (sd : Int64) (mtr : Nat) (mwo : Nat) (mnx : Nat) (jr : Int32) (od : Nat → Int32) (g : Nat → Int32) (f : Nat → Int32) (x1 : Int32) (hn : n ≤ 5) (hpg : zpr n f g) : zI l yX9_about cX9_about 2 .int 1 23 D cI cZ [.ref M, .int x1] [(M, .inr (9, [.int th, .ref mtx, .int (nI len), .int (nI pl), .int rt, .int fr, .int pr, .ref mod_, .int (nI n), .ref mne, .ref mro, .int (nI m), .int rrt, .int rfr, .int rpr, .ref mrod, .int (nI rn9), .ref mrne, .ref mrro, .int (nI rm9), .ref mrp, .ref mpg, .ref mbk, .int (nI ac), .ref mke, .ref mik, .int (nI cr), .ref mrw, .ref mrd, .long sd, .ref mtr, .ref mwo, .ref mnx, .int jr])), (mod_, .inl (cI, 4, .inl od)), (mpg, .inl (cI, 36, .inl g))] (fun (r : Int32) (u : Unit) => r = zabt x1 (nI n) rt fr pr (zoa od 4) (f 35) (zdb f n) (nI m) (nI ac) (nI cr) (nI len)) (fun (u : Unit) => [(M, .inr (9, [.int (nI 0), .ref mtx, .int (nI len), .int (nI pl), .int rt, .int fr, .int pr, .ref mod_, .int (nI n), .ref mne, .ref mro, .int (nI m), .int rrt, .int rfr, .int rpr, .ref mrod, .int (nI rn9), .ref mrne, .ref mrro, .int (nI rm9), .ref mrp, .ref mpg, .ref mbk, .int (nI ac), .ref mke, .ref mik, .int (nI cr), .ref mrw, .ref mrd, .long sd, .ref mtr, .ref mwo, .ref mnx, .int jr])), (mod_, .inl (cI, 4, .inl od)), (mpg, .inl (cI, 36, .inl g))]) := by
  refine zI_of (by decide) (Nat.le_of_ble_eq_true rfl) ?_
  intro pP eE sS mM aA bB mT cC A ls Z hP hD hS hl
  have hx := Z.1
  have hb := Z.2.1
  have hown := Z.2.2.2.2.2.1
  have hts := Z.2.2.2.2.1
  have Z : zAt pP sS mM aA mT cC D cI cZ A "SurpriseTaxModel" cX9_about 2 (some .int) := Z
  have hl : lv_has ls 2 [(0, .ref M), (1, .int x1)] := hl
  obtain ⟨H, hH⟩ : ∃ H, H = sS.heap := ⟨_, rfl⟩
  have hP : va_P D vwCl [(M, .inr (9, [.int th, .ref mtx, .int (nI len), .int (nI pl), .int rt, .int fr, .int pr, .ref mod_, .int (nI n), .ref mne, .ref mro, .int (nI m), .int rrt, .int rfr, .int rpr, .ref mrod, .int (nI rn9), .ref mrne, .ref mrro, .int (nI rm9), .ref mrp, .ref mpg, .ref mbk, .int (nI ac), .ref mke, .ref mik, .int (nI cr), .ref mrw, .ref mrd, .long sd, .ref mtr, .ref mwo, .ref mnx, .int jr])), (mod_, .inl (cI, 4, .inl od)), (mpg, .inl (cI, 36, .inl g))] H := by rw [hH]; exact hP
  have hS : va_S A sS.heap H [] := by rw [hH]; exact hS
  rw [← hH]
  clear hH
  obtain ⟨locs, hlo⟩ : ∃ q : List Loc, q = [] := ⟨_, rfl⟩
  rw [← hlo] at hS ⊢
  clear hlo
  refine lv_aload_n hx hb dX9_about_0 rfl (lv_at hl 0 rfl) ?_
  refine lv_iconst (v := nI 0) hx hb dX9_about_1 (by decide) ?_
  refine z_put (ci := 9) (v := .int (nI 0)) Z zin9 tyX9 tyX9_ok nmX9 hP hD hS 0 rfl rfl 0 (by decide) zm677 rfl rfl rfl rfl (Nat.le_of_ble_eq_true rfl) dX9_about_2 (fun H locs hP hD hS => ?_)
  have hP : va_P D vwCl [(M, .inr (9, [.int (nI 0), .ref mtx, .int (nI len), .int (nI pl), .int rt, .int fr, .int pr, .ref mod_, .int (nI n), .ref mne, .ref mro, .int (nI m), .int rrt, .int rfr, .int rpr, .ref mrod, .int (nI rn9), .ref mrne, .ref mrro, .int (nI rm9), .ref mrp, .ref mpg, .ref mbk, .int (nI ac), .ref mke, .ref mik, .int (nI cr), .ref mrw, .ref mrd, .long sd, .ref mtr, .ref mwo, .ref mnx, .int jr])), (mod_, .inl (cI, 4, .inl od)), (mpg, .inl (cI, 36, .inl g))] H := hP
  have hD : va_D A [(M, .inr (9, [.int (nI 0), .ref mtx, .int (nI len), .int (nI pl), .int rt, .int fr, .int pr, .ref mod_, .int (nI n), .ref mne, .ref mro, .int (nI m), .int rrt, .int rfr, .int rpr, .ref mrod, .int (nI rn9), .ref mrne, .ref mrro, .int (nI rm9), .ref mrp, .ref mpg, .ref mbk, .int (nI ac), .ref mke, .ref mik, .int (nI cr), .ref mrw, .ref mrd, .long sd, .ref mtr, .ref mwo, .ref mnx, .int jr])), (mod_, .inl (cI, 4, .inl od)), (mpg, .inl (cI, 36, .inl g))] := hD
  refine lv_iload_n hx hb dX9_about_5 rfl (lv_at hl 1 rfl) ?_
  by_cases c_1 : x1 = 0
  · refine lv_tableIn (tgt := 64) hx hb dX9_about_6 (by rw [c_1]; decide) (by rw [c_1]; decide) (by rw [c_1]; rfl) (by decide) ?_
    refine lv_aload_n hx hb dX9_about_64 rfl (lv_at hl 0 rfl) ?_
    refine z_get (ci := 9) (v := .int (nI n)) Z zin9 hP 0 rfl rfl 8 (by decide) zm685 rfl rfl dX9_about_65 ?_
    exact z_iret Z () (by unfold zabt; simp only [*, if_true, if_false]; first | rfl | (repeat (first | rw [if_pos (by decide)] | rw [if_neg (by decide)]))) hP hS dX9_about_68
  · skip
    by_cases c_2 : x1 = 1
    · refine lv_tableIn (tgt := 69) hx hb dX9_about_6 (by rw [c_2]; decide) (by rw [c_2]; decide) (by rw [c_2]; rfl) (by decide) ?_
      refine lv_aload_n hx hb dX9_about_69 rfl (lv_at hl 0 rfl) ?_
      refine z_get (ci := 9) (v := .int rt) Z zin9 hP 0 rfl rfl 4 (by decide) zm681 rfl rfl dX9_about_70 ?_
      exact z_iret Z () (by unfold zabt; simp only [*, if_true, if_false]; first | rfl | (repeat (first | rw [if_pos (by decide)] | rw [if_neg (by decide)]))) hP hS dX9_about_73
    · skip
      by_cases c_3 : x1 = 2
      · refine lv_tableIn (tgt := 74) hx hb dX9_about_6 (by rw [c_3]; decide) (by rw [c_3]; decide) (by rw [c_3]; rfl) (by decide) ?_
        refine lv_aload_n hx hb dX9_about_74 rfl (lv_at hl 0 rfl) ?_
        refine z_get (ci := 9) (v := .int fr) Z zin9 hP 0 rfl rfl 5 (by decide) zm682 rfl rfl dX9_about_75 ?_
        exact z_iret Z () (by unfold zabt; simp only [*, if_true, if_false]; first | rfl | (repeat (first | rw [if_pos (by decide)] | rw [if_neg (by decide)]))) hP hS dX9_about_78
      · skip
        by_cases c_4 : x1 = 3
        · refine lv_tableIn (tgt := 79) hx hb dX9_about_6 (by rw [c_4]; decide) (by rw [c_4]; decide) (by rw [c_4]; rfl) (by decide) ?_
          refine lv_aload_n hx hb dX9_about_79 rfl (lv_at hl 0 rfl) ?_
          refine z_get (ci := 9) (v := .int pr) Z zin9 hP 0 rfl rfl 6 (by decide) zm683 rfl rfl dX9_about_80 ?_
          exact z_iret Z () (by unfold zabt; simp only [*, if_true, if_false]; first | rfl | (repeat (first | rw [if_pos (by decide)] | rw [if_neg (by decide)]))) hP hS dX9_about_83
        · skip
          by_cases c_5 : x1 = 4
          · refine lv_tableIn (tgt := 84) hx hb dX9_about_6 (by rw [c_5]; decide) (by rw [c_5]; decide) (by rw [c_5]; rfl) (by decide) ?_
            refine lv_sipush (v := nI 1000) hx hb dX9_about_84 (by decide) ?_
            refine lv_aload_n hx hb dX9_about_87 rfl (lv_at hl 0 rfl) ?_
            refine z_get (ci := 9) (v := .ref mod_) Z zin9 hP 0 rfl rfl 7 (by decide) zm684 rfl rfl dX9_about_88 ?_
            refine lv_iconst (v := nI 0) hx hb dX9_about_91 (by decide) ?_
            refine z_iald (n := 4) (f := od) (j := 0) Z hP 1 rfl (by decide) (by decide) dX9_about_92 ?_
            refine lv_imul hx hb dX9_about_93 ?_
            refine z_top (y := 1000 * (od 0)) rfl ?_
            refine lv_bipush (v := nI 100) hx hb dX9_about_94 (by decide) ?_
            refine lv_aload_n hx hb dX9_about_96 rfl (lv_at hl 0 rfl) ?_
            refine z_get (ci := 9) (v := .ref mod_) Z zin9 hP 0 rfl rfl 7 (by decide) zm684 rfl rfl dX9_about_97 ?_
            refine lv_iconst (v := nI 1) hx hb dX9_about_100 (by decide) ?_
            refine z_iald (n := 4) (f := od) (j := 1) Z hP 1 rfl (by decide) (by decide) dX9_about_101 ?_
            refine lv_imul hx hb dX9_about_102 ?_
            refine z_top (y := 100 * (od 1)) rfl ?_
            refine lv_iadd hx hb dX9_about_103 ?_
            refine z_top (y := (1000 * (od 0)) + (100 * (od 1))) rfl ?_
            refine lv_bipush (v := nI 10) hx hb dX9_about_104 (by decide) ?_
            refine lv_aload_n hx hb dX9_about_106 rfl (lv_at hl 0 rfl) ?_
            refine z_get (ci := 9) (v := .ref mod_) Z zin9 hP 0 rfl rfl 7 (by decide) zm684 rfl rfl dX9_about_107 ?_
            refine lv_iconst (v := nI 2) hx hb dX9_about_110 (by decide) ?_
            refine z_iald (n := 4) (f := od) (j := 2) Z hP 1 rfl (by decide) (by decide) dX9_about_111 ?_
            refine lv_imul hx hb dX9_about_112 ?_
            refine z_top (y := 10 * (od 2)) rfl ?_
            refine lv_iadd hx hb dX9_about_113 ?_
            refine z_top (y := ((1000 * (od 0)) + (100 * (od 1))) + (10 * (od 2))) rfl ?_
            refine lv_aload_n hx hb dX9_about_114 rfl (lv_at hl 0 rfl) ?_
            refine z_get (ci := 9) (v := .ref mod_) Z zin9 hP 0 rfl rfl 7 (by decide) zm684 rfl rfl dX9_about_115 ?_
            refine lv_iconst (v := nI 3) hx hb dX9_about_118 (by decide) ?_
            refine z_iald (n := 4) (f := od) (j := 3) Z hP 1 rfl (by decide) (by decide) dX9_about_119 ?_
            refine lv_iadd hx hb dX9_about_120 ?_
            refine z_top (y := (((1000 * (od 0)) + (100 * (od 1))) + (10 * (od 2))) + (od 3)) rfl ?_
            refine z_top (y := zoa od 4) (zoa_4 od) ?_
            exact z_iret Z () (by unfold zabt; simp only [*, if_true, if_false]; first | rfl | (repeat (first | rw [if_pos (by decide)] | rw [if_neg (by decide)]))) hP hS dX9_about_121
          · skip
            by_cases c_6 : x1 = 5
            · refine lv_tableIn (tgt := 122) hx hb dX9_about_6 (by rw [c_6]; decide) (by rw [c_6]; decide) (by rw [c_6]; rfl) (by decide) ?_
              refine lv_aload_n hx hb dX9_about_122 rfl (lv_at hl 0 rfl) ?_
              refine z_get (ci := 9) (v := .ref mpg) Z zin9 hP 0 rfl rfl 21 (by decide) zm698 rfl rfl dX9_about_123 ?_
              refine lv_bipush (v := nI 35) hx hb dX9_about_126 (by decide) ?_
              refine z_iald (n := 36) (f := g) (j := 35) Z hP 2 rfl (by decide) (by decide) dX9_about_128 ?_
              refine z_top (y := f 35) (hpg.2) ?_
              exact z_iret Z () (by unfold zabt; simp only [*, if_true, if_false]; first | rfl | (repeat (first | rw [if_pos (by decide)] | rw [if_neg (by decide)]))) hP hS dX9_about_129
            · skip
              by_cases c_7 : x1 = 6
              · refine lv_tableIn (tgt := 130) hx hb dX9_about_6 (by rw [c_7]; decide) (by rw [c_7]; decide) (by rw [c_7]; rfl) (by decide) ?_
                refine lv_aload_n hx hb dX9_about_130 rfl (lv_at hl 0 rfl) ?_
                refine lv_aload_n hx hb dX9_about_131 rfl (lv_at hl 0 rfl) ?_
                refine z_get (ci := 9) (v := .ref mpg) Z zin9 hP 0 rfl rfl 21 (by decide) zm698 rfl rfl dX9_about_132 ?_
                refine z_callVi (As := [.ref mpg]) (rest := []) (ci := 9) (k0 := 0) Z hP hD hS hl.1 (zc_X9_debtOf l D cI cZ M (nI 0) mtx len pl rt fr pr mod_ n mne mro m rrt rfr rpr mrod rn9 mrne mrro rm9 mrp mpg mbk ac mke mik cr mrw mrd sd mtr mwo mnx jr mpg g f (by omega) (by intro p hp; exact (hpg.1 p hp).2.1)) zm790 zm791 zm18 zm39 zm792 ⟨rfl, zd_X9_debtOf⟩ ⟨Nat.le_of_ble_eq_true rfl, Nat.le_of_ble_eq_true rfl⟩ ⟨Nat.zero_le _, Nat.zero_le _⟩ [0, 2] rfl (by decide) rfl rfl rfl (fun _ => rfl) rfl (Nat.le_of_ble_eq_true rfl) rfl dX9_about_135 (fun r_8 u H locs h_9 hP hD hS => ?_)
                have hP : va_P D vwCl [(M, .inr (9, [.int (nI 0), .ref mtx, .int (nI len), .int (nI pl), .int rt, .int fr, .int pr, .ref mod_, .int (nI n), .ref mne, .ref mro, .int (nI m), .int rrt, .int rfr, .int rpr, .ref mrod, .int (nI rn9), .ref mrne, .ref mrro, .int (nI rm9), .ref mrp, .ref mpg, .ref mbk, .int (nI ac), .ref mke, .ref mik, .int (nI cr), .ref mrw, .ref mrd, .long sd, .ref mtr, .ref mwo, .ref mnx, .int jr])), (mod_, .inl (cI, 4, .inl od)), (mpg, .inl (cI, 36, .inl g))] H := hP
                have hD : va_D A [(M, .inr (9, [.int (nI 0), .ref mtx, .int (nI len), .int (nI pl), .int rt, .int fr, .int pr, .ref mod_, .int (nI n), .ref mne, .ref mro, .int (nI m), .int rrt, .int rfr, .int rpr, .ref mrod, .int (nI rn9), .ref mrne, .ref mrro, .int (nI rm9), .ref mrp, .ref mpg, .ref mbk, .int (nI ac), .ref mke, .ref mik, .int (nI cr), .ref mrw, .ref mrd, .long sd, .ref mtr, .ref mwo, .ref mnx, .int jr])), (mod_, .inl (cI, 4, .inl od)), (mpg, .inl (cI, 36, .inl g))] := hD
                have h_9 : r_8 = zdb f n := h_9
                subst h_9
                exact z_iret Z () (by unfold zabt; simp only [*, if_true, if_false]; first | rfl | (repeat (first | rw [if_pos (by decide)] | rw [if_neg (by decide)]))) hP hS dX9_about_138
              · skip
                by_cases c_10 : x1 = 7
                · refine lv_tableIn (tgt := 139) hx hb dX9_about_6 (by rw [c_10]; decide) (by rw [c_10]; decide) (by rw [c_10]; rfl) (by decide) ?_
                  refine lv_aload_n hx hb dX9_about_139 rfl (lv_at hl 0 rfl) ?_
                  refine z_get (ci := 9) (v := .int (nI m)) Z zin9 hP 0 rfl rfl 11 (by decide) zm688 rfl rfl dX9_about_140 ?_
                  exact z_iret Z () (by unfold zabt; simp only [*, if_true, if_false]; first | rfl | (repeat (first | rw [if_pos (by decide)] | rw [if_neg (by decide)]))) hP hS dX9_about_143
                · skip
                  by_cases c_11 : x1 = 8
                  · refine lv_tableIn (tgt := 144) hx hb dX9_about_6 (by rw [c_11]; decide) (by rw [c_11]; decide) (by rw [c_11]; rfl) (by decide) ?_
                    refine lv_aload_n hx hb dX9_about_144 rfl (lv_at hl 0 rfl) ?_
                    refine z_get (ci := 9) (v := .int (nI ac)) Z zin9 hP 0 rfl rfl 23 (by decide) zm700 rfl rfl dX9_about_145 ?_
                    exact z_iret Z () (by unfold zabt; simp only [*, if_true, if_false]; first | rfl | (repeat (first | rw [if_pos (by decide)] | rw [if_neg (by decide)]))) hP hS dX9_about_148
                  · skip
                    by_cases c_12 : x1 = 9
                    · refine lv_tableIn (tgt := 149) hx hb dX9_about_6 (by rw [c_12]; decide) (by rw [c_12]; decide) (by rw [c_12]; rfl) (by decide) ?_
                      refine lv_aload_n hx hb dX9_about_149 rfl (lv_at hl 0 rfl) ?_
                      refine z_get (ci := 9) (v := .int (nI cr)) Z zin9 hP 0 rfl rfl 26 (by decide) zm703 rfl rfl dX9_about_150 ?_
                      exact z_iret Z () (by unfold zabt; simp only [*, if_true, if_false]; first | rfl | (repeat (first | rw [if_pos (by decide)] | rw [if_neg (by decide)]))) hP hS dX9_about_153
                    · skip
                      by_cases c_13 : x1 = 10
                      · refine lv_tableIn (tgt := 154) hx hb dX9_about_6 (by rw [c_13]; decide) (by rw [c_13]; decide) (by rw [c_13]; rfl) (by decide) ?_
                        refine lv_aload_n hx hb dX9_about_154 rfl (lv_at hl 0 rfl) ?_
                        refine z_get (ci := 9) (v := .int (nI len)) Z zin9 hP 0 rfl rfl 2 (by decide) zm679 rfl rfl dX9_about_155 ?_
                        exact z_iret Z () (by unfold zabt; simp only [*, if_true, if_false]; first | rfl | (repeat (first | rw [if_pos (by decide)] | rw [if_neg (by decide)]))) hP hS dX9_about_158
                      · skip
                        refine lv_tableOut (tgt := 159) hx hb dX9_about_6 (by exact z_out0_10 c_1 c_2 c_3 c_4 c_5 c_6 c_7 c_10 c_11 c_12 c_13) (by decide) ?_
                        refine lv_bipush (v := -2) hx hb dX9_about_159 (by decide) ?_
                        exact z_iret Z () (by unfold zabt; simp only [*, if_true, if_false]; first | rfl | (repeat (first | rw [if_pos (by decide)] | rw [if_neg (by decide)]))) hP hS dX9_about_161

theorem dX9_person_0 : decode cX9_person 0 = .ok (.aload_n 0, 1) := by decide +kernel
theorem dX9_person_1 : decode cX9_person 1 = .ok (.iconst 0, 1) := by decide +kernel
theorem dX9_person_2 : decode cX9_person 2 = .ok (.putfield 62, 3) := by decide +kernel
theorem dX9_person_5 : decode cX9_person 5 = .ok (.aload_n 0, 1) := by decide +kernel
theorem dX9_person_6 : decode cX9_person 6 = .ok (.iload_n 1, 1) := by decide +kernel
theorem dX9_person_7 : decode cX9_person 7 = .ok (.invokevirtual 147, 3) := by decide +kernel
theorem dX9_person_10 : decode cX9_person 10 = .ok (.ifCond .eq 5, 3) := by decide +kernel
theorem dX9_person_13 : decode cX9_person 13 = .ok (.iconst (-1), 1) := by decide +kernel
theorem dX9_person_14 : decode cX9_person 14 = .ok (.ireturn, 1) := by decide +kernel
theorem dX9_person_15 : decode cX9_person 15 = .ok (.iload_n 2, 1) := by decide +kernel
theorem dX9_person_16 : decode cX9_person 16 = .ok (.i2l, 1) := by decide +kernel
theorem dX9_person_17 : decode cX9_person 17 = .ok (.lconst 0, 1) := by decide +kernel
theorem dX9_person_18 : decode cX9_person 18 = .ok (.ldc2_w 73, 3) := by decide +kernel
theorem dX9_person_21 : decode cX9_person 21 = .ok (.invokestatic 69, 3) := by decide +kernel
theorem dX9_person_24 : decode cX9_person 24 = .ok (.ifCond .ne 15, 3) := by decide +kernel
theorem dX9_person_27 : decode cX9_person 27 = .ok (.iload_n 2, 1) := by decide +kernel
theorem dX9_person_28 : decode cX9_person 28 = .ok (.bipush 6, 2) := by decide +kernel
theorem dX9_person_30 : decode cX9_person 30 = .ok (.if_icmp .eq 9, 3) := by decide +kernel
theorem dX9_person_33 : decode cX9_person 33 = .ok (.iload_n 2, 1) := by decide +kernel
theorem dX9_person_34 : decode cX9_person 34 = .ok (.bipush 7, 2) := by decide +kernel
theorem dX9_person_36 : decode cX9_person 36 = .ok (.if_icmp .ne 26, 3) := by decide +kernel
theorem dX9_person_39 : decode cX9_person 39 = .ok (.aload_n 0, 1) := by decide +kernel
theorem dX9_person_40 : decode cX9_person 40 = .ok (.getfield 34, 3) := by decide +kernel
theorem dX9_person_43 : decode cX9_person 43 = .ok (.bipush 7, 2) := by decide +kernel
theorem dX9_person_45 : decode cX9_person 45 = .ok (.iload_n 1, 1) := by decide +kernel
theorem dX9_person_46 : decode cX9_person 46 = .ok (.imul, 1) := by decide +kernel
theorem dX9_person_47 : decode cX9_person 47 = .ok (.iload_n 2, 1) := by decide +kernel
theorem dX9_person_48 : decode cX9_person 48 = .ok (.iconst 4, 1) := by decide +kernel
theorem dX9_person_49 : decode cX9_person 49 = .ok (.if_icmp .ge 7, 3) := by decide +kernel
theorem dX9_person_52 : decode cX9_person 52 = .ok (.iload_n 2, 1) := by decide +kernel
theorem dX9_person_53 : decode cX9_person 53 = .ok (.goto 6, 3) := by decide +kernel
theorem dX9_person_56 : decode cX9_person 56 = .ok (.iload_n 2, 1) := by decide +kernel
theorem dX9_person_57 : decode cX9_person 57 = .ok (.iconst 1, 1) := by decide +kernel
theorem dX9_person_58 : decode cX9_person 58 = .ok (.isub, 1) := by decide +kernel
theorem dX9_person_59 : decode cX9_person 59 = .ok (.iadd, 1) := by decide +kernel
theorem dX9_person_60 : decode cX9_person 60 = .ok (.iaload, 1) := by decide +kernel
theorem dX9_person_61 : decode cX9_person 61 = .ok (.ireturn, 1) := by decide +kernel
theorem dX9_person_62 : decode cX9_person 62 = .ok (.iload_n 2, 1) := by decide +kernel
theorem dX9_person_63 : decode cX9_person 63 = .ok (.iconst 4, 1) := by decide +kernel
theorem dX9_person_64 : decode cX9_person 64 = .ok (.if_icmp .ne 20, 3) := by decide +kernel
theorem dX9_person_67 : decode cX9_person 67 = .ok (.ldc 151, 2) := by decide +kernel
theorem dX9_person_69 : decode cX9_person 69 = .ok (.aload_n 0, 1) := by decide +kernel
theorem dX9_person_70 : decode cX9_person 70 = .ok (.getfield 34, 3) := by decide +kernel
theorem dX9_person_73 : decode cX9_person 73 = .ok (.bipush 7, 2) := by decide +kernel
theorem dX9_person_75 : decode cX9_person 75 = .ok (.iload_n 1, 1) := by decide +kernel
theorem dX9_person_76 : decode cX9_person 76 = .ok (.imul, 1) := by decide +kernel
theorem dX9_person_77 : decode cX9_person 77 = .ok (.iconst 4, 1) := by decide +kernel
theorem dX9_person_78 : decode cX9_person 78 = .ok (.iadd, 1) := by decide +kernel
theorem dX9_person_79 : decode cX9_person 79 = .ok (.iaload, 1) := by decide +kernel
theorem dX9_person_80 : decode cX9_person 80 = .ok (.iadd, 1) := by decide +kernel
theorem dX9_person_81 : decode cX9_person 81 = .ok (.goto 34, 3) := by decide +kernel
theorem dX9_person_84 : decode cX9_person 84 = .ok (.iload_n 2, 1) := by decide +kernel
theorem dX9_person_85 : decode cX9_person 85 = .ok (.iconst 5, 1) := by decide +kernel
theorem dX9_person_86 : decode cX9_person 86 = .ok (.if_icmp .ne 12, 3) := by decide +kernel
theorem dX9_person_89 : decode cX9_person 89 = .ok (.aload_n 0, 1) := by decide +kernel
theorem dX9_person_90 : decode cX9_person 90 = .ok (.getfield 16, 3) := by decide +kernel
theorem dX9_person_93 : decode cX9_person 93 = .ok (.iload_n 1, 1) := by decide +kernel
theorem dX9_person_94 : decode cX9_person 94 = .ok (.iaload, 1) := by decide +kernel
theorem dX9_person_95 : decode cX9_person 95 = .ok (.goto 20, 3) := by decide +kernel
theorem dX9_person_98 : decode cX9_person 98 = .ok (.iload_n 2, 1) := by decide +kernel
theorem dX9_person_99 : decode cX9_person 99 = .ok (.bipush 8, 2) := by decide +kernel
theorem dX9_person_101 : decode cX9_person 101 = .ok (.if_icmp .ne 12, 3) := by decide +kernel
theorem dX9_person_104 : decode cX9_person 104 = .ok (.aload_n 0, 1) := by decide +kernel
theorem dX9_person_105 : decode cX9_person 105 = .ok (.getfield 19, 3) := by decide +kernel
theorem dX9_person_108 : decode cX9_person 108 = .ok (.iload_n 1, 1) := by decide +kernel
theorem dX9_person_109 : decode cX9_person 109 = .ok (.iaload, 1) := by decide +kernel
theorem dX9_person_110 : decode cX9_person 110 = .ok (.goto 5, 3) := by decide +kernel
theorem dX9_person_113 : decode cX9_person 113 = .ok (.bipush (-2), 2) := by decide +kernel
theorem dX9_person_115 : decode cX9_person 115 = .ok (.ireturn, 1) := by decide +kernel
theorem zd_X9_person : yX9_person.cls ≠ "java/lang/invoke/MethodHandle" ∧ yX9_person.cls ≠ "java/lang/invoke/VarHandle" ∧ (parseMethodDescriptor yX9_person.desc).map (fun d => d.parameters.length) = some 2 := by decide +kernel
set_option maxHeartbeats 4000000 in
set_option maxRecDepth 100000 in
theorem zc_X9_person (l : Launch) (D : va_G) (cI cZ : ClassId) (M : Nat) (th : Int32) (mtx : Nat) (len : Nat) (pl : Nat) (rt : Int32) (fr : Int32) (pr : Int32) (mod_ : Nat) (n : Nat) (mne : Nat) (mro : Nat) (m : Nat) (rrt : Int32) (rfr : Int32) (rpr : Int32) (mrod : Nat) (rn9 : Nat) (mrne : Nat) (mrro : Nat) (rm9 : Nat) (mrp : Nat) (mpg : Nat) (mbk : Nat) (ac : Nat) (mke : Nat) (mik : Nat) (cr : Nat) (mrw : Nat) (mrd : Nat) (sd : Int64) (mtr : Nat) (mwo : Nat) (mnx : Nat) (jr : Int32) (nv : Nat → Int32) (rd : Nat → Int32) (md : Nat → Int32) (g : Nat → Int32) (f : Nat → Int32) (x1 : Int32) (x2 : Int32) (hn : n ≤ 5) (hpg : zpr n f g) (hrd : ∀ p, p < n → md p = rd p) : zI l yX9_person cX9_person 3 .int 2 46 D cI cZ [.ref M, .int x1, .int x2] [(M, .inr (9, [.int th, .ref mtx, .int (nI len), .int (nI pl), .int rt, .int fr, .int pr, .ref mod_, .int (nI n), .ref mne, .ref mro, .int (nI m), .int rrt, .int rfr, .int rpr, .ref mrod, .int (nI rn9), .ref mrne, .ref mrro, .int (nI rm9), .ref mrp, .ref mpg, .ref mbk, .int (nI ac), .ref mke, .ref mik, .int (nI cr), .ref mrw, .ref mrd, .long sd, .ref mtr, .ref mwo, .ref mnx, .int jr])), (mne, .inl (cI, 5, .inl nv)), (mro, .inl (cI, 5, .inl md)), (mpg, .inl (cI, 36, .inl g))] (fun (r : Int32) (u : Unit) => r = zPa n x1 (fun p => zprs f nv rd p x2) (-1)) (fun (u : Unit) => [(M, .inr (9, [.int (nI 0), .ref mtx, .int (nI len), .int (nI pl), .int rt, .int fr, .int pr, .ref mod_, .int (nI n), .ref mne, .ref mro, .int (nI m), .int rrt, .int rfr, .int rpr, .ref mrod, .int (nI rn9), .ref mrne, .ref mrro, .int (nI rm9), .ref mrp, .ref mpg, .ref mbk, .int (nI ac), .ref mke, .ref mik, .int (nI cr), .ref mrw, .ref mrd, .long sd, .ref mtr, .ref mwo, .ref mnx, .int jr])), (mne, .inl (cI, 5, .inl nv)), (mro, .inl (cI, 5, .inl md)), (mpg, .inl (cI, 36, .inl g))]) := by
  refine zI_of (by decide) (Nat.le_of_ble_eq_true rfl) ?_
  intro pP eE sS mM aA bB mT cC A ls Z hP hD hS hl
  have hx := Z.1
  have hb := Z.2.1
  have hown := Z.2.2.2.2.2.1
  have hts := Z.2.2.2.2.1
  have Z : zAt pP sS mM aA mT cC D cI cZ A "SurpriseTaxModel" cX9_person 3 (some .int) := Z
  have hl : lv_has ls 3 [(0, .ref M), (1, .int x1), (2, .int x2)] := hl
  obtain ⟨H, hH⟩ : ∃ H, H = sS.heap := ⟨_, rfl⟩
  have hP : va_P D vwCl [(M, .inr (9, [.int th, .ref mtx, .int (nI len), .int (nI pl), .int rt, .int fr, .int pr, .ref mod_, .int (nI n), .ref mne, .ref mro, .int (nI m), .int rrt, .int rfr, .int rpr, .ref mrod, .int (nI rn9), .ref mrne, .ref mrro, .int (nI rm9), .ref mrp, .ref mpg, .ref mbk, .int (nI ac), .ref mke, .ref mik, .int (nI cr), .ref mrw, .ref mrd, .long sd, .ref mtr, .ref mwo, .ref mnx, .int jr])), (mne, .inl (cI, 5, .inl nv)), (mro, .inl (cI, 5, .inl md)), (mpg, .inl (cI, 36, .inl g))] H := by rw [hH]; exact hP
  have hS : va_S A sS.heap H [] := by rw [hH]; exact hS
  rw [← hH]
  clear hH
  obtain ⟨locs, hlo⟩ : ∃ q : List Loc, q = [] := ⟨_, rfl⟩
  rw [← hlo] at hS ⊢
  clear hlo
  refine lv_aload_n hx hb dX9_person_0 rfl (lv_at hl 0 rfl) ?_
  refine lv_iconst (v := nI 0) hx hb dX9_person_1 (by decide) ?_
  refine z_put (ci := 9) (v := .int (nI 0)) Z zin9 tyX9 tyX9_ok nmX9 hP hD hS 0 rfl rfl 0 (by decide) zm677 rfl rfl rfl rfl (Nat.le_of_ble_eq_true rfl) dX9_person_2 (fun H locs hP hD hS => ?_)
  have hP : va_P D vwCl [(M, .inr (9, [.int (nI 0), .ref mtx, .int (nI len), .int (nI pl), .int rt, .int fr, .int pr, .ref mod_, .int (nI n), .ref mne, .ref mro, .int (nI m), .int rrt, .int rfr, .int rpr, .ref mrod, .int (nI rn9), .ref mrne, .ref mrro, .int (nI rm9), .ref mrp, .ref mpg, .ref mbk, .int (nI ac), .ref mke, .ref mik, .int (nI cr), .ref mrw, .ref mrd, .long sd, .ref mtr, .ref mwo, .ref mnx, .int jr])), (mne, .inl (cI, 5, .inl nv)), (mro, .inl (cI, 5, .inl md)), (mpg, .inl (cI, 36, .inl g))] H := hP
  have hD : va_D A [(M, .inr (9, [.int (nI 0), .ref mtx, .int (nI len), .int (nI pl), .int rt, .int fr, .int pr, .ref mod_, .int (nI n), .ref mne, .ref mro, .int (nI m), .int rrt, .int rfr, .int rpr, .ref mrod, .int (nI rn9), .ref mrne, .ref mrro, .int (nI rm9), .ref mrp, .ref mpg, .ref mbk, .int (nI ac), .ref mke, .ref mik, .int (nI cr), .ref mrw, .ref mrd, .long sd, .ref mtr, .ref mwo, .ref mnx, .int jr])), (mne, .inl (cI, 5, .inl nv)), (mro, .inl (cI, 5, .inl md)), (mpg, .inl (cI, 36, .inl g))] := hD
  refine lv_aload_n hx hb dX9_person_5 rfl (lv_at hl 0 rfl) ?_
  refine lv_iload_n hx hb dX9_person_6 rfl (lv_at hl 1 rfl) ?_
  refine z_callVi (As := [.int x1]) (rest := []) (ci := 9) (k0 := 0) Z hP hD hS hl.1 (zc_X9_noOne l D cI cZ M (nI 0) mtx len pl rt fr pr mod_ n mne mro m rrt rfr rpr mrod rn9 mrne mrro rm9 mrp mpg mbk ac mke mik cr mrw mrd sd mtr mwo mnx jr x1 (by omega)) zm797 zm798 zm19 zm39 zm799 ⟨rfl, zd_X9_noOne⟩ ⟨Nat.le_of_ble_eq_true rfl, Nat.le_of_ble_eq_true rfl⟩ ⟨Nat.zero_le _, Nat.zero_le _⟩ [0] rfl (by decide) rfl rfl rfl (fun _ => rfl) rfl (Nat.le_of_ble_eq_true rfl) rfl dX9_person_7 (fun r_1 u H locs h_2 hP hD hS => ?_)
  have hP : va_P D vwCl [(M, .inr (9, [.int (nI 0), .ref mtx, .int (nI len), .int (nI pl), .int rt, .int fr, .int pr, .ref mod_, .int (nI n), .ref mne, .ref mro, .int (nI m), .int rrt, .int rfr, .int rpr, .ref mrod, .int (nI rn9), .ref mrne, .ref mrro, .int (nI rm9), .ref mrp, .ref mpg, .ref mbk, .int (nI ac), .ref mke, .ref mik, .int (nI cr), .ref mrw, .ref mrd, .long sd, .ref mtr, .ref mwo, .ref mnx, .int jr])), (mne, .inl (cI, 5, .inl nv)), (mro, .inl (cI, 5, .inl md)), (mpg, .inl (cI, 36, .inl g))] H := hP
  have hD : va_D A [(M, .inr (9, [.int (nI 0), .ref mtx, .int (nI len), .int (nI pl), .int rt, .int fr, .int pr, .ref mod_, .int (nI n), .ref mne, .ref mro, .int (nI m), .int rrt, .int rfr, .int rpr, .ref mrod, .int (nI rn9), .ref mrne, .ref mrro, .int (nI rm9), .ref mrp, .ref mpg, .ref mbk, .int (nI ac), .ref mke, .ref mik, .int (nI cr), .ref mrw, .ref mrd, .long sd, .ref mtr, .ref mwo, .ref mnx, .int jr])), (mne, .inl (cI, 5, .inl nv)), (mro, .inl (cI, 5, .inl md)), (mpg, .inl (cI, 36, .inl g))] := hD
  have h_2 : r_1 = if ¬ zhas n x1 then 1 else 0 := h_2
  subst h_2
  refine lv_if_eq (tgt := 15) hx hb dX9_person_10 (by decide) (fun c_3 => ?_) (fun c_3 => ?_)
  · have c_3 := zb0 c_3
    have hzz := Classical.not_not.mp c_3
    obtain ⟨p, hp, rfl⟩ := zhas_of (by omega) hzz
    have hp1 := hpg.1 p hp
    have hrp := hrd p hp
    refine lv_iload_n hx hb dX9_person_15 rfl (lv_at hl 2 rfl) ?_
    refine lv_i2l (v := x2.toInt64) hx hb dX9_person_16 rfl ?_
    refine lv_lconst (v := 0) hx hb dX9_person_17 (by decide) ?_
    refine lv_ldc2 (v := 3) hx hb hown (hts _ zm800) dX9_person_18 ?_
    refine z_callSi (As := [.long x2.toInt64, .long 0, .long 3]) (rest := []) Z hP hD hS hl.1 (zc_X9_in l D cI cZ x2.toInt64 0 3 ) zm750 zm751 zm39 zm752 zd_X9_in ⟨Nat.le_of_ble_eq_true rfl, Nat.le_of_ble_eq_true rfl⟩ ⟨Nat.zero_le _, Nat.zero_le _⟩ [] rfl (by decide) (fun _ => rfl) rfl (Nat.le_of_ble_eq_true rfl) rfl dX9_person_21 (fun r_4 u H locs h_5 hP hD hS => ?_)
    have hP : va_P D vwCl [(M, .inr (9, [.int (nI 0), .ref mtx, .int (nI len), .int (nI pl), .int rt, .int fr, .int pr, .ref mod_, .int (nI n), .ref mne, .ref mro, .int (nI m), .int rrt, .int rfr, .int rpr, .ref mrod, .int (nI rn9), .ref mrne, .ref mrro, .int (nI rm9), .ref mrp, .ref mpg, .ref mbk, .int (nI ac), .ref mke, .ref mik, .int (nI cr), .ref mrw, .ref mrd, .long sd, .ref mtr, .ref mwo, .ref mnx, .int jr])), (mne, .inl (cI, 5, .inl nv)), (mro, .inl (cI, 5, .inl md)), (mpg, .inl (cI, 36, .inl g))] H := hP
    have hD : va_D A [(M, .inr (9, [.int (nI 0), .ref mtx, .int (nI len), .int (nI pl), .int rt, .int fr, .int pr, .ref mod_, .int (nI n), .ref mne, .ref mro, .int (nI m), .int rrt, .int rfr, .int rpr, .ref mrod, .int (nI rn9), .ref mrne, .ref mrro, .int (nI rm9), .ref mrp, .ref mpg, .ref mbk, .int (nI ac), .ref mke, .ref mik, .int (nI cr), .ref mrw, .ref mrd, .long sd, .ref mtr, .ref mwo, .ref mnx, .int jr])), (mne, .inl (cI, 5, .inl nv)), (mro, .inl (cI, 5, .inl md)), (mpg, .inl (cI, 36, .inl g))] := hD
    have h_5 : r_4 = if ¬ x2.toInt64 < 0 ∧ ¬ 3 < x2.toInt64 then 1 else 0 := h_5
    subst h_5
    refine lv_if_ne (tgt := 39) hx hb dX9_person_24 (by decide) (fun c_6 => ?_) (fun c_6 => ?_)
    · have c_6 := zb1 c_6
      have hzk := zink.mp c_6
      obtain ⟨k, hk, rfl⟩ := zkind_of hzk
      refine lv_aload_n hx hb dX9_person_39 rfl (lv_at hl 0 rfl) ?_
      refine z_get (ci := 9) (v := .ref mpg) Z zin9 hP 0 rfl rfl 21 (by decide) zm698 rfl rfl dX9_person_40 ?_
      refine lv_bipush (v := nI 7) hx hb dX9_person_43 (by decide) ?_
      refine lv_iload_n hx hb dX9_person_45 rfl (lv_at hl 1 rfl) ?_
      refine lv_imul hx hb dX9_person_46 ?_
      refine z_top (y := nI (7 * p)) (z_mul _ _) ?_
      refine lv_iload_n hx hb dX9_person_47 rfl (lv_at hl 2 rfl) ?_
      refine lv_iconst (v := nI 4) hx hb dX9_person_48 (by decide) ?_
      refine lv_icmp_ge (tgt := 56) hx hb dX9_person_49 (by decide) (fun c_7 => ?_) (fun c_7 => ?_)
      · have c_7 := zle (i := 4) (j := k) (by decide) (by omega) c_7
        exact absurd c_7 (by omega)
      · have c_7 := znle (i := 4) (j := k) (by decide) (by omega) c_7
        refine lv_iload_n hx hb dX9_person_52 rfl (lv_at hl 2 rfl) ?_
        refine lv_goto (tgt := 59) hx hb dX9_person_53 (by decide) ?_
        refine lv_iadd hx hb dX9_person_59 ?_
        refine z_top (y := nI (7 * p + k)) (z_add _ _) ?_
        refine z_iald (n := 36) (f := g) (j := 7 * p + k) Z hP 3 rfl (by omega) (by decide) dX9_person_60 ?_
        exact z_iret Z () (by first | rw [zPa_n (by assumption)] | (rw [zPa_y hp hn]; unfold zprs; first | (rw [zKa_y hk]; exact hp1.1 k hk) | (rw [zKa_n hzn]; first | (rw [if_neg (by rw [h26]; decide), if_neg (by rw [h26]; decide), if_pos h26]; exact hp1.2.2.1) | (rw [if_neg (by rw [h27]; decide), if_neg (by rw [h27]; decide), if_neg (by rw [h27]; decide), if_pos h27]; exact hp1.2.2.2) | (rw [if_pos (by assumption), ← hp1.2.1]; exact Int32.add_comm _ _) | (rw [if_neg (by assumption), if_pos (by assumption)]) | (rw [if_neg (by assumption), if_neg (by assumption), if_neg (by assumption), if_neg (by assumption), if_pos (by assumption)]; exact hrp) | (rw [if_neg (by assumption), if_neg (by assumption), if_neg (by assumption), if_neg (by assumption), if_neg (by assumption)])))) hP hS dX9_person_61
    · have c_6 := zb0 c_6
      have hzn := fun q => c_6 (zink.mpr q)
      refine lv_iload_n hx hb dX9_person_27 rfl (lv_at hl 2 rfl) ?_
      refine lv_bipush (v := nI 6) hx hb dX9_person_28 (by decide) ?_
      refine lv_icmp_eq (tgt := 39) hx hb dX9_person_30 (by decide) (fun c_8 => ?_) (fun c_8 => ?_)
      · have c_8 : x2 = 6 := c_8
        have h26 := c_8
        have hE : x2 = nI 6 := h26
        have hl : lv_has ls 3 [(0, .ref M), (1, .int (nI p)), (2, .int (nI 6))] := Eq.subst (motive := fun zz_ => lv_has ls 3 [(0, .ref M), (1, .int (nI p)), (2, .int zz_)]) hE hl
        refine lv_aload_n hx hb dX9_person_39 rfl (lv_at hl 0 rfl) ?_
        refine z_get (ci := 9) (v := .ref mpg) Z zin9 hP 0 rfl rfl 21 (by decide) zm698 rfl rfl dX9_person_40 ?_
        refine lv_bipush (v := nI 7) hx hb dX9_person_43 (by decide) ?_
        refine lv_iload_n hx hb dX9_person_45 rfl (lv_at hl 1 rfl) ?_
        refine lv_imul hx hb dX9_person_46 ?_
        refine z_top (y := nI (7 * p)) (z_mul _ _) ?_
        refine lv_iload_n hx hb dX9_person_47 rfl (lv_at hl 2 rfl) ?_
        refine lv_iconst (v := nI 4) hx hb dX9_person_48 (by decide) ?_
        refine lv_icmp_ge (tgt := 56) hx hb dX9_person_49 (by decide) (fun c_9 => ?_) (fun c_9 => ?_)
        · have c_9 := zle (i := 4) (j := 6) (by decide) (by decide) c_9
          refine lv_iload_n hx hb dX9_person_56 rfl (lv_at hl 2 rfl) ?_
          refine lv_iconst (v := nI 1) hx hb dX9_person_57 (by decide) ?_
          refine lv_isub hx hb dX9_person_58 ?_
          refine z_top (y := nI 5) (z_sub' (by omega)) ?_
          refine lv_iadd hx hb dX9_person_59 ?_
          refine z_top (y := nI (7 * p + 5)) (z_add _ _) ?_
          refine z_iald (n := 36) (f := g) (j := 7 * p + 5) Z hP 3 rfl (by omega) (by decide) dX9_person_60 ?_
          exact z_iret Z () (by first | rw [zPa_n (by assumption)] | (rw [zPa_y hp hn]; unfold zprs; first | (rw [zKa_y hk]; exact hp1.1 k hk) | (rw [zKa_n hzn]; first | (rw [if_neg (by rw [h26]; decide), if_neg (by rw [h26]; decide), if_pos h26]; exact hp1.2.2.1) | (rw [if_neg (by rw [h27]; decide), if_neg (by rw [h27]; decide), if_neg (by rw [h27]; decide), if_pos h27]; exact hp1.2.2.2) | (rw [if_pos (by assumption), ← hp1.2.1]; exact Int32.add_comm _ _) | (rw [if_neg (by assumption), if_pos (by assumption)]) | (rw [if_neg (by assumption), if_neg (by assumption), if_neg (by assumption), if_neg (by assumption), if_pos (by assumption)]; exact hrp) | (rw [if_neg (by assumption), if_neg (by assumption), if_neg (by assumption), if_neg (by assumption), if_neg (by assumption)])))) hP hS dX9_person_61
        · exact absurd c_9 (by decide)
      · have c_8 : ¬ (x2 = 6) := c_8
        refine lv_iload_n hx hb dX9_person_33 rfl (lv_at hl 2 rfl) ?_
        refine lv_bipush (v := nI 7) hx hb dX9_person_34 (by decide) ?_
        refine lv_icmp_ne (tgt := 62) hx hb dX9_person_36 (by decide) (fun c_10 => ?_) (fun c_10 => ?_)
        · have c_10 : ¬ (x2 = 7) := c_10
          refine lv_iload_n hx hb dX9_person_62 rfl (lv_at hl 2 rfl) ?_
          refine lv_iconst (v := nI 4) hx hb dX9_person_63 (by decide) ?_
          refine lv_icmp_ne (tgt := 84) hx hb dX9_person_64 (by decide) (fun c_11 => ?_) (fun c_11 => ?_)
          · have c_11 : ¬ (x2 = 4) := c_11
            refine lv_iload_n hx hb dX9_person_84 rfl (lv_at hl 2 rfl) ?_
            refine lv_iconst (v := nI 5) hx hb dX9_person_85 (by decide) ?_
            refine lv_icmp_ne (tgt := 98) hx hb dX9_person_86 (by decide) (fun c_12 => ?_) (fun c_12 => ?_)
            · have c_12 : ¬ (x2 = 5) := c_12
              refine lv_iload_n hx hb dX9_person_98 rfl (lv_at hl 2 rfl) ?_
              refine lv_bipush (v := nI 8) hx hb dX9_person_99 (by decide) ?_
              refine lv_icmp_ne (tgt := 113) hx hb dX9_person_101 (by decide) (fun c_13 => ?_) (fun c_13 => ?_)
              · have c_13 : ¬ (x2 = 8) := c_13
                refine lv_bipush (v := -2) hx hb dX9_person_113 (by decide) ?_
                exact z_iret Z () (by first | rw [zPa_n (by assumption)] | (rw [zPa_y hp hn]; unfold zprs; first | (rw [zKa_y hk]; exact hp1.1 k hk) | (rw [zKa_n hzn]; first | (rw [if_neg (by rw [h26]; decide), if_neg (by rw [h26]; decide), if_pos h26]; exact hp1.2.2.1) | (rw [if_neg (by rw [h27]; decide), if_neg (by rw [h27]; decide), if_neg (by rw [h27]; decide), if_pos h27]; exact hp1.2.2.2) | (rw [if_pos (by assumption), ← hp1.2.1]; exact Int32.add_comm _ _) | (rw [if_neg (by assumption), if_pos (by assumption)]) | (rw [if_neg (by assumption), if_neg (by assumption), if_neg (by assumption), if_neg (by assumption), if_pos (by assumption)]; exact hrp) | (rw [if_neg (by assumption), if_neg (by assumption), if_neg (by assumption), if_neg (by assumption), if_neg (by assumption)])))) hP hS dX9_person_115
              · have c_13 : x2 = 8 := c_13
                refine lv_aload_n hx hb dX9_person_104 rfl (lv_at hl 0 rfl) ?_
                refine z_get (ci := 9) (v := .ref mro) Z zin9 hP 0 rfl rfl 10 (by decide) zm687 rfl rfl dX9_person_105 ?_
                refine lv_iload_n hx hb dX9_person_108 rfl (lv_at hl 1 rfl) ?_
                refine z_iald (n := 5) (f := md) (j := p) Z hP 2 rfl (by omega) (by decide) dX9_person_109 ?_
                refine lv_goto (tgt := 115) hx hb dX9_person_110 (by decide) ?_
                exact z_iret Z () (by first | rw [zPa_n (by assumption)] | (rw [zPa_y hp hn]; unfold zprs; first | (rw [zKa_y hk]; exact hp1.1 k hk) | (rw [zKa_n hzn]; first | (rw [if_neg (by rw [h26]; decide), if_neg (by rw [h26]; decide), if_pos h26]; exact hp1.2.2.1) | (rw [if_neg (by rw [h27]; decide), if_neg (by rw [h27]; decide), if_neg (by rw [h27]; decide), if_pos h27]; exact hp1.2.2.2) | (rw [if_pos (by assumption), ← hp1.2.1]; exact Int32.add_comm _ _) | (rw [if_neg (by assumption), if_pos (by assumption)]) | (rw [if_neg (by assumption), if_neg (by assumption), if_neg (by assumption), if_neg (by assumption), if_pos (by assumption)]; exact hrp) | (rw [if_neg (by assumption), if_neg (by assumption), if_neg (by assumption), if_neg (by assumption), if_neg (by assumption)])))) hP hS dX9_person_115
            · have c_12 : x2 = 5 := c_12
              refine lv_aload_n hx hb dX9_person_89 rfl (lv_at hl 0 rfl) ?_
              refine z_get (ci := 9) (v := .ref mne) Z zin9 hP 0 rfl rfl 9 (by decide) zm686 rfl rfl dX9_person_90 ?_
              refine lv_iload_n hx hb dX9_person_93 rfl (lv_at hl 1 rfl) ?_
              refine z_iald (n := 5) (f := nv) (j := p) Z hP 1 rfl (by omega) (by decide) dX9_person_94 ?_
              refine lv_goto (tgt := 115) hx hb dX9_person_95 (by decide) ?_
              exact z_iret Z () (by first | rw [zPa_n (by assumption)] | (rw [zPa_y hp hn]; unfold zprs; first | (rw [zKa_y hk]; exact hp1.1 k hk) | (rw [zKa_n hzn]; first | (rw [if_neg (by rw [h26]; decide), if_neg (by rw [h26]; decide), if_pos h26]; exact hp1.2.2.1) | (rw [if_neg (by rw [h27]; decide), if_neg (by rw [h27]; decide), if_neg (by rw [h27]; decide), if_pos h27]; exact hp1.2.2.2) | (rw [if_pos (by assumption), ← hp1.2.1]; exact Int32.add_comm _ _) | (rw [if_neg (by assumption), if_pos (by assumption)]) | (rw [if_neg (by assumption), if_neg (by assumption), if_neg (by assumption), if_neg (by assumption), if_pos (by assumption)]; exact hrp) | (rw [if_neg (by assumption), if_neg (by assumption), if_neg (by assumption), if_neg (by assumption), if_neg (by assumption)])))) hP hS dX9_person_115
          · have c_11 : x2 = 4 := c_11
            refine lv_ldc (v := 100000) hx hb hown (hts _ zm801) dX9_person_67 ?_
            refine lv_aload_n hx hb dX9_person_69 rfl (lv_at hl 0 rfl) ?_
            refine z_get (ci := 9) (v := .ref mpg) Z zin9 hP 0 rfl rfl 21 (by decide) zm698 rfl rfl dX9_person_70 ?_
            refine lv_bipush (v := nI 7) hx hb dX9_person_73 (by decide) ?_
            refine lv_iload_n hx hb dX9_person_75 rfl (lv_at hl 1 rfl) ?_
            refine lv_imul hx hb dX9_person_76 ?_
            refine z_top (y := nI (7 * p)) (z_mul _ _) ?_
            refine lv_iconst (v := nI 4) hx hb dX9_person_77 (by decide) ?_
            refine lv_iadd hx hb dX9_person_78 ?_
            refine z_top (y := nI (7 * p + 4)) (z_add _ _) ?_
            refine z_iald (n := 36) (f := g) (j := 7 * p + 4) Z hP 3 rfl (by omega) (by decide) dX9_person_79 ?_
            refine lv_iadd hx hb dX9_person_80 ?_
            refine z_top (y := 100000 + (g (7 * p + 4))) rfl ?_
            refine lv_goto (tgt := 115) hx hb dX9_person_81 (by decide) ?_
            exact z_iret Z () (by first | rw [zPa_n (by assumption)] | (rw [zPa_y hp hn]; unfold zprs; first | (rw [zKa_y hk]; exact hp1.1 k hk) | (rw [zKa_n hzn]; first | (rw [if_neg (by rw [h26]; decide), if_neg (by rw [h26]; decide), if_pos h26]; exact hp1.2.2.1) | (rw [if_neg (by rw [h27]; decide), if_neg (by rw [h27]; decide), if_neg (by rw [h27]; decide), if_pos h27]; exact hp1.2.2.2) | (rw [if_pos (by assumption), ← hp1.2.1]; exact Int32.add_comm _ _) | (rw [if_neg (by assumption), if_pos (by assumption)]) | (rw [if_neg (by assumption), if_neg (by assumption), if_neg (by assumption), if_neg (by assumption), if_pos (by assumption)]; exact hrp) | (rw [if_neg (by assumption), if_neg (by assumption), if_neg (by assumption), if_neg (by assumption), if_neg (by assumption)])))) hP hS dX9_person_115
        · have c_10 : x2 = 7 := c_10
          have h27 := c_10
          have hE : x2 = nI 7 := h27
          have hl : lv_has ls 3 [(0, .ref M), (1, .int (nI p)), (2, .int (nI 7))] := Eq.subst (motive := fun zz_ => lv_has ls 3 [(0, .ref M), (1, .int (nI p)), (2, .int zz_)]) hE hl
          refine lv_aload_n hx hb dX9_person_39 rfl (lv_at hl 0 rfl) ?_
          refine z_get (ci := 9) (v := .ref mpg) Z zin9 hP 0 rfl rfl 21 (by decide) zm698 rfl rfl dX9_person_40 ?_
          refine lv_bipush (v := nI 7) hx hb dX9_person_43 (by decide) ?_
          refine lv_iload_n hx hb dX9_person_45 rfl (lv_at hl 1 rfl) ?_
          refine lv_imul hx hb dX9_person_46 ?_
          refine z_top (y := nI (7 * p)) (z_mul _ _) ?_
          refine lv_iload_n hx hb dX9_person_47 rfl (lv_at hl 2 rfl) ?_
          refine lv_iconst (v := nI 4) hx hb dX9_person_48 (by decide) ?_
          refine lv_icmp_ge (tgt := 56) hx hb dX9_person_49 (by decide) (fun c_14 => ?_) (fun c_14 => ?_)
          · have c_14 := zle (i := 4) (j := 7) (by decide) (by decide) c_14
            refine lv_iload_n hx hb dX9_person_56 rfl (lv_at hl 2 rfl) ?_
            refine lv_iconst (v := nI 1) hx hb dX9_person_57 (by decide) ?_
            refine lv_isub hx hb dX9_person_58 ?_
            refine z_top (y := nI 6) (z_sub' (by omega)) ?_
            refine lv_iadd hx hb dX9_person_59 ?_
            refine z_top (y := nI (7 * p + 6)) (z_add _ _) ?_
            refine z_iald (n := 36) (f := g) (j := 7 * p + 6) Z hP 3 rfl (by omega) (by decide) dX9_person_60 ?_
            exact z_iret Z () (by first | rw [zPa_n (by assumption)] | (rw [zPa_y hp hn]; unfold zprs; first | (rw [zKa_y hk]; exact hp1.1 k hk) | (rw [zKa_n hzn]; first | (rw [if_neg (by rw [h26]; decide), if_neg (by rw [h26]; decide), if_pos h26]; exact hp1.2.2.1) | (rw [if_neg (by rw [h27]; decide), if_neg (by rw [h27]; decide), if_neg (by rw [h27]; decide), if_pos h27]; exact hp1.2.2.2) | (rw [if_pos (by assumption), ← hp1.2.1]; exact Int32.add_comm _ _) | (rw [if_neg (by assumption), if_pos (by assumption)]) | (rw [if_neg (by assumption), if_neg (by assumption), if_neg (by assumption), if_neg (by assumption), if_pos (by assumption)]; exact hrp) | (rw [if_neg (by assumption), if_neg (by assumption), if_neg (by assumption), if_neg (by assumption), if_neg (by assumption)])))) hP hS dX9_person_61
          · exact absurd c_14 (by decide)
  · have c_3 := zb1 c_3
    refine lv_iconst (v := -1) hx hb dX9_person_13 (by decide) ?_
    exact z_iret Z () (by first | rw [zPa_n (by assumption)] | (rw [zPa_y hp hn]; unfold zprs; first | (rw [zKa_y hk]; exact hp1.1 k hk) | (rw [zKa_n hzn]; first | (rw [if_neg (by rw [h26]; decide), if_neg (by rw [h26]; decide), if_pos h26]; exact hp1.2.2.1) | (rw [if_neg (by rw [h27]; decide), if_neg (by rw [h27]; decide), if_neg (by rw [h27]; decide), if_pos h27]; exact hp1.2.2.2) | (rw [if_pos (by assumption), ← hp1.2.1]; exact Int32.add_comm _ _) | (rw [if_neg (by assumption), if_pos (by assumption)]) | (rw [if_neg (by assumption), if_neg (by assumption), if_neg (by assumption), if_neg (by assumption), if_pos (by assumption)]; exact hrp) | (rw [if_neg (by assumption), if_neg (by assumption), if_neg (by assumption), if_neg (by assumption), if_neg (by assumption)])))) hP hS dX9_person_14

theorem dX9_taxOf_0 : decode cX9_taxOf 0 = .ok (.bipush 7, 2) := by decide +kernel
theorem dX9_taxOf_2 : decode cX9_taxOf 2 = .ok (.iload_n 2, 1) := by decide +kernel
theorem dX9_taxOf_3 : decode cX9_taxOf 3 = .ok (.imul, 1) := by decide +kernel
theorem dX9_taxOf_4 : decode cX9_taxOf 4 = .ok (.istore 4, 2) := by decide +kernel
theorem dX9_taxOf_6 : decode cX9_taxOf 6 = .ok (.aload_n 0, 1) := by decide +kernel
theorem dX9_taxOf_7 : decode cX9_taxOf 7 = .ok (.getfield 125, 3) := by decide +kernel
theorem dX9_taxOf_10 : decode cX9_taxOf 10 = .ok (.aload_n 1, 1) := by decide +kernel
theorem dX9_taxOf_11 : decode cX9_taxOf 11 = .ok (.iload 4, 2) := by decide +kernel
theorem dX9_taxOf_13 : decode cX9_taxOf 13 = .ok (.iload_n 3, 1) := by decide +kernel
theorem dX9_taxOf_14 : decode cX9_taxOf 14 = .ok (.iadd, 1) := by decide +kernel
theorem dX9_taxOf_15 : decode cX9_taxOf 15 = .ok (.iaload, 1) := by decide +kernel
theorem dX9_taxOf_16 : decode cX9_taxOf 16 = .ok (.iload_n 3, 1) := by decide +kernel
theorem dX9_taxOf_17 : decode cX9_taxOf 17 = .ok (.aload_n 1, 1) := by decide +kernel
theorem dX9_taxOf_18 : decode cX9_taxOf 18 = .ok (.iload 4, 2) := by decide +kernel
theorem dX9_taxOf_20 : decode cX9_taxOf 20 = .ok (.iconst 5, 1) := by decide +kernel
theorem dX9_taxOf_21 : decode cX9_taxOf 21 = .ok (.iadd, 1) := by decide +kernel
theorem dX9_taxOf_22 : decode cX9_taxOf 22 = .ok (.iaload, 1) := by decide +kernel
theorem dX9_taxOf_23 : decode cX9_taxOf 23 = .ok (.aload_n 1, 1) := by decide +kernel
theorem dX9_taxOf_24 : decode cX9_taxOf 24 = .ok (.iload 4, 2) := by decide +kernel
theorem dX9_taxOf_26 : decode cX9_taxOf 26 = .ok (.bipush 6, 2) := by decide +kernel
theorem dX9_taxOf_28 : decode cX9_taxOf 28 = .ok (.iadd, 1) := by decide +kernel
theorem dX9_taxOf_29 : decode cX9_taxOf 29 = .ok (.iaload, 1) := by decide +kernel
theorem dX9_taxOf_30 : decode cX9_taxOf 30 = .ok (.aload_n 0, 1) := by decide +kernel
theorem dX9_taxOf_31 : decode cX9_taxOf 31 = .ok (.getfield 128, 3) := by decide +kernel
theorem dX9_taxOf_34 : decode cX9_taxOf 34 = .ok (.invokestatic 152, 3) := by decide +kernel
theorem dX9_taxOf_37 : decode cX9_taxOf 37 = .ok (.imul, 1) := by decide +kernel
theorem dX9_taxOf_38 : decode cX9_taxOf 38 = .ok (.ireturn, 1) := by decide +kernel
theorem zd_X9_taxOf : yX9_taxOf.cls ≠ "java/lang/invoke/MethodHandle" ∧ yX9_taxOf.cls ≠ "java/lang/invoke/VarHandle" ∧ (parseMethodDescriptor yX9_taxOf.desc).map (fun d => d.parameters.length) = some 3 := by decide +kernel
set_option maxHeartbeats 4000000 in
set_option maxRecDepth 100000 in
theorem zc_X9_taxOf (l : Launch) (D : va_G) (cI cZ : ClassId) (M : Nat) (th : Int32) (mtx : Nat) (len : Nat) (pl : Nat) (rt : Int32) (fr : Int32) (pr : Int32) (mod_ : Nat) (n : Nat) (mne : Nat) (mro : Nat) (m : Nat) (rrt : Int32) (rfr : Int32) (rpr : Int32) (mrod : Nat) (rn9 : Nat) (mrne : Nat) (mrro : Nat) (rm9 : Nat) (mrp : Nat) (mpg : Nat) (mbk : Nat) (ac : Nat) (mke : Nat) (mik : Nat) (cr : Nat) (mrw : Nat) (mrd : Nat) (sd : Int64) (mtr : Nat) (mwo : Nat) (mnx : Nat) (jr : Int32) (q1 : Nat) (g : Nat → Int32) (f : Nat → Int32) (p : Nat) (k : Nat) (hp : p < 5) (hk : k < 4) (hp1 : zp1 p f g) : zI l yX9_taxOf cX9_taxOf 5 .int 1 25 D cI cZ [.ref M, .ref q1, .int (nI p), .int (nI k)] [(M, .inr (9, [.int th, .ref mtx, .int (nI len), .int (nI pl), .int rt, .int fr, .int pr, .ref mod_, .int (nI n), .ref mne, .ref mro, .int (nI m), .int rrt, .int rfr, .int rpr, .ref mrod, .int (nI rn9), .ref mrne, .ref mrro, .int (nI rm9), .ref mrp, .ref mpg, .ref mbk, .int (nI ac), .ref mke, .ref mik, .int (nI cr), .ref mrw, .ref mrd, .long sd, .ref mtr, .ref mwo, .ref mnx, .int jr])), (q1, .inl (cI, 36, .inl g))] (fun (r : Int32) (u : Unit) => r = ztax f rt fr p k) (fun (u : Unit) => [(M, .inr (9, [.int th, .ref mtx, .int (nI len), .int (nI pl), .int rt, .int fr, .int pr, .ref mod_, .int (nI n), .ref mne, .ref mro, .int (nI m), .int rrt, .int rfr, .int rpr, .ref mrod, .int (nI rn9), .ref mrne, .ref mrro, .int (nI rm9), .ref mrp, .ref mpg, .ref mbk, .int (nI ac), .ref mke, .ref mik, .int (nI cr), .ref mrw, .ref mrd, .long sd, .ref mtr, .ref mwo, .ref mnx, .int jr])), (q1, .inl (cI, 36, .inl g))]) := by
  refine zI_of (by decide) (Nat.le_of_ble_eq_true rfl) ?_
  intro pP eE sS mM aA bB mT cC A ls Z hP hD hS hl
  have hx := Z.1
  have hb := Z.2.1
  have hown := Z.2.2.2.2.2.1
  have hts := Z.2.2.2.2.1
  have Z : zAt pP sS mM aA mT cC D cI cZ A "SurpriseTaxModel" cX9_taxOf 5 (some .int) := Z
  have hl : lv_has ls 5 [(0, .ref M), (1, .ref q1), (2, .int (nI p)), (3, .int (nI k))] := hl
  obtain ⟨H, hH⟩ : ∃ H, H = sS.heap := ⟨_, rfl⟩
  have hP : va_P D vwCl [(M, .inr (9, [.int th, .ref mtx, .int (nI len), .int (nI pl), .int rt, .int fr, .int pr, .ref mod_, .int (nI n), .ref mne, .ref mro, .int (nI m), .int rrt, .int rfr, .int rpr, .ref mrod, .int (nI rn9), .ref mrne, .ref mrro, .int (nI rm9), .ref mrp, .ref mpg, .ref mbk, .int (nI ac), .ref mke, .ref mik, .int (nI cr), .ref mrw, .ref mrd, .long sd, .ref mtr, .ref mwo, .ref mnx, .int jr])), (q1, .inl (cI, 36, .inl g))] H := by rw [hH]; exact hP
  have hS : va_S A sS.heap H [] := by rw [hH]; exact hS
  rw [← hH]
  clear hH
  obtain ⟨locs, hlo⟩ : ∃ q : List Loc, q = [] := ⟨_, rfl⟩
  rw [← hlo] at hS ⊢
  clear hlo
  refine lv_bipush (v := nI 7) hx hb dX9_taxOf_0 (by decide) ?_
  refine lv_iload_n hx hb dX9_taxOf_2 rfl (lv_at hl 2 rfl) ?_
  refine lv_imul hx hb dX9_taxOf_3 ?_
  refine z_top (y := nI (7 * p)) (z_mul _ _) ?_
  refine lv_istore (lv' := [(4, .int (nI (7 * p))), (0, .ref M), (1, .ref q1), (2, .int (nI p)), (3, .int (nI k))]) hx hb dX9_taxOf_4 hl (by decide) rfl (fun ls hl => ?_)
  refine lv_aload_n hx hb dX9_taxOf_6 rfl (lv_at hl 1 rfl) ?_
  refine z_get (ci := 9) (v := .int rt) Z zin9 hP 0 rfl rfl 4 (by decide) zm681 rfl rfl dX9_taxOf_7 ?_
  refine lv_aload_n hx hb dX9_taxOf_10 rfl (lv_at hl 2 rfl) ?_
  refine lv_iload hx hb dX9_taxOf_11 (lv_at hl 0 rfl) ?_
  refine lv_iload_n hx hb dX9_taxOf_13 rfl (lv_at hl 4 rfl) ?_
  refine lv_iadd hx hb dX9_taxOf_14 ?_
  refine z_top (y := nI (7 * p + k)) (z_add _ _) ?_
  refine z_iald (n := 36) (f := g) (j := 7 * p + k) Z hP 1 rfl (by omega) (by decide) dX9_taxOf_15 ?_
  refine lv_iload_n hx hb dX9_taxOf_16 rfl (lv_at hl 4 rfl) ?_
  refine lv_aload_n hx hb dX9_taxOf_17 rfl (lv_at hl 2 rfl) ?_
  refine lv_iload hx hb dX9_taxOf_18 (lv_at hl 0 rfl) ?_
  refine lv_iconst (v := nI 5) hx hb dX9_taxOf_20 (by decide) ?_
  refine lv_iadd hx hb dX9_taxOf_21 ?_
  refine z_top (y := nI (7 * p + 5)) (z_add _ _) ?_
  refine z_iald (n := 36) (f := g) (j := 7 * p + 5) Z hP 1 rfl (by omega) (by decide) dX9_taxOf_22 ?_
  refine lv_aload_n hx hb dX9_taxOf_23 rfl (lv_at hl 2 rfl) ?_
  refine lv_iload hx hb dX9_taxOf_24 (lv_at hl 0 rfl) ?_
  refine lv_bipush (v := nI 6) hx hb dX9_taxOf_26 (by decide) ?_
  refine lv_iadd hx hb dX9_taxOf_28 ?_
  refine z_top (y := nI (7 * p + 6)) (z_add _ _) ?_
  refine z_iald (n := 36) (f := g) (j := 7 * p + 6) Z hP 1 rfl (by omega) (by decide) dX9_taxOf_29 ?_
  refine lv_aload_n hx hb dX9_taxOf_30 rfl (lv_at hl 1 rfl) ?_
  refine z_get (ci := 9) (v := .int fr) Z zin9 hP 0 rfl rfl 5 (by decide) zm682 rfl rfl dX9_taxOf_31 ?_
  refine z_callSi (As := [.int (g (7 * p + k)), .int (nI k), .int (g (7 * p + 5)), .int (g (7 * p + 6)), .int fr]) (rest := [.int rt]) Z hP hD hS hl.1 (zc_X9_surprise l D cI cZ (g (7 * p + k)) k (g (7 * p + 5)) (g (7 * p + 6)) fr (by omega)) zm826 zm827 zm39 zm828 zd_X9_surprise ⟨Nat.le_of_ble_eq_true rfl, Nat.le_of_ble_eq_true rfl⟩ ⟨Nat.zero_le _, Nat.zero_le _⟩ [] rfl (by decide) (fun _ => rfl) rfl (Nat.le_of_ble_eq_true rfl) rfl dX9_taxOf_34 (fun r_1 u H locs h_2 hP hD hS => ?_)
  have hP : va_P D vwCl [(M, .inr (9, [.int th, .ref mtx, .int (nI len), .int (nI pl), .int rt, .int fr, .int pr, .ref mod_, .int (nI n), .ref mne, .ref mro, .int (nI m), .int rrt, .int rfr, .int rpr, .ref mrod, .int (nI rn9), .ref mrne, .ref mrro, .int (nI rm9), .ref mrp, .ref mpg, .ref mbk, .int (nI ac), .ref mke, .ref mik, .int (nI cr), .ref mrw, .ref mrd, .long sd, .ref mtr, .ref mwo, .ref mnx, .int jr])), (q1, .inl (cI, 36, .inl g))] H := hP
  have hD : va_D A [(M, .inr (9, [.int th, .ref mtx, .int (nI len), .int (nI pl), .int rt, .int fr, .int pr, .ref mod_, .int (nI n), .ref mne, .ref mro, .int (nI m), .int rrt, .int rfr, .int rpr, .ref mrod, .int (nI rn9), .ref mrne, .ref mrro, .int (nI rm9), .ref mrp, .ref mpg, .ref mbk, .int (nI ac), .ref mke, .ref mik, .int (nI cr), .ref mrw, .ref mrd, .long sd, .ref mtr, .ref mwo, .ref mnx, .int jr])), (q1, .inl (cI, 36, .inl g))] := hD
  have h_2 : r_1 = zsu (g (7 * p + k)) (g (7 * p + 5)) (g (7 * p + 6)) (nI k) fr := h_2
  subst h_2
  refine lv_imul hx hb dX9_taxOf_37 ?_
  refine z_top (y := rt * (zsu (g (7 * p + k)) (g (7 * p + 5)) (g (7 * p + 6)) (nI k) fr)) rfl ?_
  exact z_iret Z () (by first | exact ztax_g hp1 hk | rfl) hP hS dX9_taxOf_38

theorem dX9_learn_0 : decode cX9_learn 0 = .ok (.aload_n 0, 1) := by decide +kernel
theorem dX9_learn_1 : decode cX9_learn 1 = .ok (.iload_n 1, 1) := by decide +kernel
theorem dX9_learn_2 : decode cX9_learn 2 = .ok (.iload_n 2, 1) := by decide +kernel
theorem dX9_learn_3 : decode cX9_learn 3 = .ok (.iadd, 1) := by decide +kernel
theorem dX9_learn_4 : decode cX9_learn 4 = .ok (.iaload, 1) := by decide +kernel
theorem dX9_learn_5 : decode cX9_learn 5 = .ok (.bipush 10, 2) := by decide +kernel
theorem dX9_learn_7 : decode cX9_learn 7 = .ok (.if_icmp .ne 4, 3) := by decide +kernel
theorem dX9_learn_10 : decode cX9_learn 10 = .ok (.return_, 1) := by decide +kernel
theorem dX9_learn_11 : decode cX9_learn 11 = .ok (.bipush (-9), 2) := by decide +kernel
theorem dX9_learn_13 : decode cX9_learn 13 = .ok (.istore_n 3, 1) := by decide +kernel
theorem dX9_learn_14 : decode cX9_learn 14 = .ok (.iconst 0, 1) := by decide +kernel
theorem dX9_learn_15 : decode cX9_learn 15 = .ok (.istore 4, 2) := by decide +kernel
theorem dX9_learn_17 : decode cX9_learn 17 = .ok (.iload 4, 2) := by decide +kernel
theorem dX9_learn_19 : decode cX9_learn 19 = .ok (.iconst 4, 1) := by decide +kernel
theorem dX9_learn_20 : decode cX9_learn 20 = .ok (.if_icmp .ge 42, 3) := by decide +kernel
theorem dX9_learn_23 : decode cX9_learn 23 = .ok (.iload 4, 2) := by decide +kernel
theorem dX9_learn_25 : decode cX9_learn 25 = .ok (.iload_n 2, 1) := by decide +kernel
theorem dX9_learn_26 : decode cX9_learn 26 = .ok (.if_icmp .eq 28, 3) := by decide +kernel
theorem dX9_learn_29 : decode cX9_learn 29 = .ok (.iload_n 3, 1) := by decide +kernel
theorem dX9_learn_30 : decode cX9_learn 30 = .ok (.bipush (-9), 2) := by decide +kernel
theorem dX9_learn_32 : decode cX9_learn 32 = .ok (.if_icmp .eq 17, 3) := by decide +kernel
theorem dX9_learn_35 : decode cX9_learn 35 = .ok (.aload_n 0, 1) := by decide +kernel
theorem dX9_learn_36 : decode cX9_learn 36 = .ok (.iload_n 1, 1) := by decide +kernel
theorem dX9_learn_37 : decode cX9_learn 37 = .ok (.iload 4, 2) := by decide +kernel
theorem dX9_learn_39 : decode cX9_learn 39 = .ok (.iadd, 1) := by decide +kernel
theorem dX9_learn_40 : decode cX9_learn 40 = .ok (.iaload, 1) := by decide +kernel
theorem dX9_learn_41 : decode cX9_learn 41 = .ok (.aload_n 0, 1) := by decide +kernel
theorem dX9_learn_42 : decode cX9_learn 42 = .ok (.iload_n 1, 1) := by decide +kernel
theorem dX9_learn_43 : decode cX9_learn 43 = .ok (.iload_n 3, 1) := by decide +kernel
theorem dX9_learn_44 : decode cX9_learn 44 = .ok (.iadd, 1) := by decide +kernel
theorem dX9_learn_45 : decode cX9_learn 45 = .ok (.iaload, 1) := by decide +kernel
theorem dX9_learn_46 : decode cX9_learn 46 = .ok (.if_icmp .le 8, 3) := by decide +kernel
theorem dX9_learn_49 : decode cX9_learn 49 = .ok (.iload 4, 2) := by decide +kernel
theorem dX9_learn_51 : decode cX9_learn 51 = .ok (.goto 4, 3) := by decide +kernel
theorem dX9_learn_54 : decode cX9_learn 54 = .ok (.iload_n 3, 1) := by decide +kernel
theorem dX9_learn_55 : decode cX9_learn 55 = .ok (.istore_n 3, 1) := by decide +kernel
theorem dX9_learn_56 : decode cX9_learn 56 = .ok (.iinc 4 1, 3) := by decide +kernel
theorem dX9_learn_59 : decode cX9_learn 59 = .ok (.goto (-42), 3) := by decide +kernel
theorem dX9_learn_62 : decode cX9_learn 62 = .ok (.aload_n 0, 1) := by decide +kernel
theorem dX9_learn_63 : decode cX9_learn 63 = .ok (.iload_n 1, 1) := by decide +kernel
theorem dX9_learn_64 : decode cX9_learn 64 = .ok (.iload_n 2, 1) := by decide +kernel
theorem dX9_learn_65 : decode cX9_learn 65 = .ok (.iadd, 1) := by decide +kernel
theorem dX9_learn_66 : decode cX9_learn 66 = .ok (.dup2, 1) := by decide +kernel
theorem dX9_learn_67 : decode cX9_learn 67 = .ok (.iaload, 1) := by decide +kernel
theorem dX9_learn_68 : decode cX9_learn 68 = .ok (.iconst 1, 1) := by decide +kernel
theorem dX9_learn_69 : decode cX9_learn 69 = .ok (.iadd, 1) := by decide +kernel
theorem dX9_learn_70 : decode cX9_learn 70 = .ok (.iastore, 1) := by decide +kernel
theorem dX9_learn_71 : decode cX9_learn 71 = .ok (.aload_n 0, 1) := by decide +kernel
theorem dX9_learn_72 : decode cX9_learn 72 = .ok (.iload_n 1, 1) := by decide +kernel
theorem dX9_learn_73 : decode cX9_learn 73 = .ok (.iload_n 3, 1) := by decide +kernel
theorem dX9_learn_74 : decode cX9_learn 74 = .ok (.iadd, 1) := by decide +kernel
theorem dX9_learn_75 : decode cX9_learn 75 = .ok (.dup2, 1) := by decide +kernel
theorem dX9_learn_76 : decode cX9_learn 76 = .ok (.iaload, 1) := by decide +kernel
theorem dX9_learn_77 : decode cX9_learn 77 = .ok (.iconst 1, 1) := by decide +kernel
theorem dX9_learn_78 : decode cX9_learn 78 = .ok (.isub, 1) := by decide +kernel
theorem dX9_learn_79 : decode cX9_learn 79 = .ok (.iastore, 1) := by decide +kernel
theorem dX9_learn_80 : decode cX9_learn 80 = .ok (.return_, 1) := by decide +kernel
theorem zd_X9_learn : yX9_learn.cls ≠ "java/lang/invoke/MethodHandle" ∧ yX9_learn.cls ≠ "java/lang/invoke/VarHandle" ∧ (parseMethodDescriptor yX9_learn.desc).map (fun d => d.parameters.length) = some 3 := by decide +kernel
set_option maxHeartbeats 4000000 in
set_option maxRecDepth 100000 in
theorem zc_X9_learn (l : Launch) (D : va_G) (cI cZ : ClassId) (q1 : Nat) (g : Nat → Int32) (b7 : Nat) (k : Nat) (hb7 : b7 ≤ 28) (hk : k < 4) : zV l yX9_learn cX9_learn 5 0 0 D cI cZ [.ref q1, .int (nI b7), .int (nI k)] [(q1, .inl (cI, 36, .inl g))] (fun (u : Unit) => True) (fun (u : Unit) => [(q1, .inl (cI, 36, .inl (zml g b7 k)))]) := by
  refine zV_of (by decide) (Nat.le_of_ble_eq_true rfl) ?_
  intro pP eE sS mM aA bB mT cC A ls Z hP hD hS hl
  have hx := Z.1
  have hb := Z.2.1
  have hown := Z.2.2.2.2.2.1
  have hts := Z.2.2.2.2.1
  have Z : zAt pP sS mM aA mT cC D cI cZ A "SurpriseTaxModel" cX9_learn 5 none := Z
  have hl : lv_has ls 5 [(0, .ref q1), (1, .int (nI b7)), (2, .int (nI k))] := hl
  obtain ⟨H, hH⟩ : ∃ H, H = sS.heap := ⟨_, rfl⟩
  have hP : va_P D vwCl [(q1, .inl (cI, 36, .inl g))] H := by rw [hH]; exact hP
  have hS : va_S A sS.heap H [] := by rw [hH]; exact hS
  rw [← hH]
  clear hH
  obtain ⟨locs, hlo⟩ : ∃ q : List Loc, q = [] := ⟨_, rfl⟩
  rw [← hlo] at hS ⊢
  clear hlo
  refine lv_aload_n hx hb dX9_learn_0 rfl (lv_at hl 0 rfl) ?_
  refine lv_iload_n hx hb dX9_learn_1 rfl (lv_at hl 1 rfl) ?_
  refine lv_iload_n hx hb dX9_learn_2 rfl (lv_at hl 2 rfl) ?_
  refine lv_iadd hx hb dX9_learn_3 ?_
  refine z_top (y := nI (b7 + k)) (z_add _ _) ?_
  refine z_iald (n := 36) (f := g) (j := b7 + k) Z hP 0 rfl (by omega) (by decide) dX9_learn_4 ?_
  refine lv_bipush (v := nI 10) hx hb dX9_learn_5 (by decide) ?_
  refine lv_icmp_ne (tgt := 11) hx hb dX9_learn_7 (by decide) (fun c_1 => ?_) (fun c_1 => ?_)
  · have c_1 : ¬ ((g (b7 + k)) = 10) := c_1
    refine lv_bipush (v := -9) hx hb dX9_learn_11 (by decide) ?_
    refine lv_istore_n (lv' := [(3, .int (-9)), (0, .ref q1), (1, .int (nI b7)), (2, .int (nI k))]) hx hb dX9_learn_13 rfl hl (by decide) rfl (fun ls hl => ?_)
    refine lv_iconst (v := nI 0) hx hb dX9_learn_14 (by decide) ?_
    refine lv_istore (lv' := [(4, .int (nI 0)), (3, .int (-9)), (0, .ref q1), (1, .int (nI b7)), (2, .int (nI k))]) hx hb dX9_learn_15 hl (by decide) rfl (fun ls hl => ?_)
    have hl : lv_has ls 5 [(4, .int (nI 0)), (3, .int (-9)), (0, .ref q1), (1, .int (nI b7)), (2, .int (nI k))] := lv_sub hl [0, 1, 2, 3, 4] rfl
    have e_3 : -9 = zmoI g b7 k 0 := by rfl
    have hl : lv_has ls 5 [(4, .int (nI 0)), (3, .int (zmoI g b7 k 0)), (0, .ref q1), (1, .int (nI b7)), (2, .int (nI k))] := Eq.subst (motive := fun zz_ => lv_has ls 5 [(4, .int (nI 0)), (3, .int zz_), (0, .ref q1), (1, .int (nI b7)), (2, .int (nI k))]) e_3 hl
    refine z_loop (fun o H locs ls => va_P D vwCl [(q1, .inl (cI, 36, .inl g))] H ∧ va_D A [(q1, .inl (cI, 36, .inl g))] ∧ va_S A sS.heap H locs ∧ lv_has ls 5 [(4, .int (nI o)), (3, .int (zmoI g b7 k o)), (0, .ref q1), (1, .int (nI b7)), (2, .int (nI k))]) (4) (lo := 0) (by omega) ⟨hP, hD, hS, hl⟩ (fun o hi_o ih_2 H locs ls hI => ?_)
    obtain ⟨hP, hD, hS, hl⟩ := hI
    have hP : va_P D vwCl [(q1, .inl (cI, 36, .inl g))] H := hP
    have hD : va_D A [(q1, .inl (cI, 36, .inl g))] := hD
    have hl : lv_has ls 5 [(4, .int (nI o)), (3, .int (zmoI g b7 k o)), (0, .ref q1), (1, .int (nI b7)), (2, .int (nI k))] := hl
    have hmo := zmo_lt (g := g) (b := b7) (k := k) (o := o) (by omega)
    refine lv_iload hx hb dX9_learn_17 (lv_at hl 0 rfl) ?_
    refine lv_iconst (v := nI 4) hx hb dX9_learn_19 (by decide) ?_
    refine lv_icmp_ge (tgt := 62) hx hb dX9_learn_20 (by decide) (fun c_4 => ?_) (fun c_4 => ?_)
    · have c_4 := zle (i := 4) (j := o) (by decide) (by omega) c_4
      have hE_ : 4 = o := by omega
      subst hE_
      have hE : zmoI g b7 k 4 = nI (zmo g b7 k 4) := zmoI_nat (by unfold zmoI; rw [if_neg (by omega)]; exact znI9 (by omega))
      have hl : lv_has ls 5 [(4, .int (nI 4)), (3, .int (nI (zmo g b7 k 4))), (0, .ref q1), (1, .int (nI b7)), (2, .int (nI k))] := Eq.subst (motive := fun zz_ => lv_has ls 5 [(4, .int (nI 4)), (3, .int zz_), (0, .ref q1), (1, .int (nI b7)), (2, .int (nI k))]) hE hl
      refine lv_aload_n hx hb dX9_learn_62 rfl (lv_at hl 2 rfl) ?_
      refine lv_iload_n hx hb dX9_learn_63 rfl (lv_at hl 3 rfl) ?_
      refine lv_iload_n hx hb dX9_learn_64 rfl (lv_at hl 4 rfl) ?_
      refine lv_iadd hx hb dX9_learn_65 ?_
      refine z_top (y := nI (b7 + k)) (z_add _ _) ?_
      refine lv_dup2_11 hx hb dX9_learn_66 rfl rfl ?_
      refine z_iald (n := 36) (f := g) (j := b7 + k) Z hP 0 rfl (by omega) (by decide) dX9_learn_67 ?_
      refine lv_iconst (v := nI 1) hx hb dX9_learn_68 (by decide) ?_
      refine lv_iadd hx hb dX9_learn_69 ?_
      refine z_top (y := (g (b7 + k)) + 1) rfl ?_
      refine z_iast (n := 36) (f := g) (j := b7 + k) (x := (g (b7 + k)) + 1) Z hP hD hS 0 rfl (by omega) (by decide) dX9_learn_70 (fun H locs hP hD hS => ?_)
      have hP : va_P D vwCl [(q1, .inl (cI, 36, .inl (upd g (b7 + k) ((g (b7 + k)) + 1))))] H := hP
      have hD : va_D A [(q1, .inl (cI, 36, .inl (upd g (b7 + k) ((g (b7 + k)) + 1))))] := hD
      refine lv_aload_n hx hb dX9_learn_71 rfl (lv_at hl 2 rfl) ?_
      refine lv_iload_n hx hb dX9_learn_72 rfl (lv_at hl 3 rfl) ?_
      refine lv_iload_n hx hb dX9_learn_73 rfl (lv_at hl 1 rfl) ?_
      refine lv_iadd hx hb dX9_learn_74 ?_
      refine z_top (y := nI (b7 + (zmo g b7 k 4))) (z_add _ _) ?_
      refine lv_dup2_11 hx hb dX9_learn_75 rfl rfl ?_
      refine z_iald (n := 36) (f := upd g (b7 + k) ((g (b7 + k)) + 1)) (j := b7 + (zmo g b7 k 4)) Z hP 0 rfl (by omega) (by decide) dX9_learn_76 ?_
      refine lv_iconst (v := nI 1) hx hb dX9_learn_77 (by decide) ?_
      refine lv_isub hx hb dX9_learn_78 ?_
      refine z_top (y := ((upd g (b7 + k) ((g (b7 + k)) + 1)) (b7 + (zmo g b7 k 4))) - 1) rfl ?_
      refine z_iast (n := 36) (f := upd g (b7 + k) ((g (b7 + k)) + 1)) (j := b7 + (zmo g b7 k 4)) (x := ((upd g (b7 + k) ((g (b7 + k)) + 1)) (b7 + (zmo g b7 k 4))) - 1) Z hP hD hS 0 rfl (by omega) (by decide) dX9_learn_79 (fun H locs hP hD hS => ?_)
      have hP : va_P D vwCl [(q1, .inl (cI, 36, .inl (upd (upd g (b7 + k) ((g (b7 + k)) + 1)) (b7 + (zmo g b7 k 4)) (((upd g (b7 + k) ((g (b7 + k)) + 1)) (b7 + (zmo g b7 k 4))) - 1))))] H := hP
      have hD : va_D A [(q1, .inl (cI, 36, .inl (upd (upd g (b7 + k) ((g (b7 + k)) + 1)) (b7 + (zmo g b7 k 4)) (((upd g (b7 + k) ((g (b7 + k)) + 1)) (b7 + (zmo g b7 k 4))) - 1))))] := hD
      have e_5 : upd (upd g (b7 + k) ((g (b7 + k)) + 1)) (b7 + (zmo g b7 k 4)) (((upd g (b7 + k) ((g (b7 + k)) + 1)) (b7 + (zmo g b7 k 4))) - 1) = zml g b7 k := by first | (unfold zml; rw [if_pos (by assumption)]) | (unfold zml; rw [if_neg (by assumption)]) | rfl
      have hP : va_P D vwCl [(q1, .inl (cI, 36, .inl (zml g b7 k)))] H := Eq.subst (motive := fun zz_ => va_P D vwCl [(q1, .inl (cI, 36, .inl zz_))] H) e_5 hP
      have hD : va_D A [(q1, .inl (cI, 36, .inl (zml g b7 k)))] := zD_of hD rfl
      exact z_vret Z () trivial hP hS dX9_learn_80
    · have c_4 := znle (i := 4) (j := o) (by decide) (by omega) c_4
      refine lv_iload hx hb dX9_learn_23 (lv_at hl 0 rfl) ?_
      refine lv_iload_n hx hb dX9_learn_25 rfl (lv_at hl 4 rfl) ?_
      refine lv_icmp_eq (tgt := 54) hx hb dX9_learn_26 (by decide) (fun c_6 => ?_) (fun c_6 => ?_)
      · have c_6 := zeq (i := o) (j := k) (by omega) (by omega) c_6
        refine lv_iload_n hx hb dX9_learn_54 rfl (lv_at hl 1 rfl) ?_
        refine lv_istore_n (lv' := [(3, .int (zmoI g b7 k o)), (4, .int (nI o)), (0, .ref q1), (1, .int (nI b7)), (2, .int (nI k))]) hx hb dX9_learn_55 rfl hl (by decide) rfl (fun ls hl => ?_)
        refine lv_iinc (v := nI (o + 1)) (lv' := [(4, .int (nI (o + 1))), (3, .int (zmoI g b7 k o)), (0, .ref q1), (1, .int (nI b7)), (2, .int (nI k))]) hx hb dX9_learn_56 hl (k := 1) rfl (z_inc _ 1) (by decide) rfl (fun ls hl => ?_)
        refine lv_goto (tgt := 17) hx hb dX9_learn_59 (by decide) ?_
        have hl : lv_has ls 5 [(4, .int (nI (o + 1))), (3, .int (zmoI g b7 k o)), (0, .ref q1), (1, .int (nI b7)), (2, .int (nI k))] := lv_sub hl [0, 1, 2, 3, 4] rfl
        have e_7 : zmoI g b7 k o = zmoI g b7 k (o + 1) := by first | exact zmoI_skip (by assumption) (by omega) | exact zmoI_first (by assumption) (by omega) (by assumption) | exact zmoI_le (by assumption) (by assumption) (by assumption) | exact zmoI_gt (by assumption) (by assumption) (by assumption) | rfl
        have hl : lv_has ls 5 [(4, .int (nI (o + 1))), (3, .int (zmoI g b7 k (o + 1))), (0, .ref q1), (1, .int (nI b7)), (2, .int (nI k))] := Eq.subst (motive := fun zz_ => lv_has ls 5 [(4, .int (nI (o + 1))), (3, .int zz_), (0, .ref q1), (1, .int (nI b7)), (2, .int (nI k))]) e_7 hl
        exact ih_2 _ _ _ (by omega) ⟨hP, hD, hS, hl⟩
      · have c_6 := zne (i := o) (j := k) c_6
        refine lv_iload_n hx hb dX9_learn_29 rfl (lv_at hl 1 rfl) ?_
        refine lv_bipush (v := -9) hx hb dX9_learn_30 (by decide) ?_
        refine lv_icmp_eq (tgt := 49) hx hb dX9_learn_32 (by decide) (fun c_8 => ?_) (fun c_8 => ?_)
        · have c_8 : (zmoI g b7 k o) = (-9) := c_8
          refine lv_iload hx hb dX9_learn_49 (lv_at hl 0 rfl) ?_
          refine lv_goto (tgt := 55) hx hb dX9_learn_51 (by decide) ?_
          refine lv_istore_n (lv' := [(3, .int (nI o)), (4, .int (nI o)), (0, .ref q1), (1, .int (nI b7)), (2, .int (nI k))]) hx hb dX9_learn_55 rfl hl (by decide) rfl (fun ls hl => ?_)
          refine lv_iinc (v := nI (o + 1)) (lv' := [(4, .int (nI (o + 1))), (3, .int (nI o)), (0, .ref q1), (1, .int (nI b7)), (2, .int (nI k))]) hx hb dX9_learn_56 hl (k := 1) rfl (z_inc _ 1) (by decide) rfl (fun ls hl => ?_)
          refine lv_goto (tgt := 17) hx hb dX9_learn_59 (by decide) ?_
          have hl : lv_has ls 5 [(4, .int (nI (o + 1))), (3, .int (nI o)), (0, .ref q1), (1, .int (nI b7)), (2, .int (nI k))] := lv_sub hl [0, 1, 2, 3, 4] rfl
          have e_9 : nI o = zmoI g b7 k (o + 1) := by first | exact zmoI_skip (by assumption) (by omega) | exact zmoI_first (by assumption) (by omega) (by assumption) | exact zmoI_le (by assumption) (by assumption) (by assumption) | exact zmoI_gt (by assumption) (by assumption) (by assumption) | rfl
          have hl : lv_has ls 5 [(4, .int (nI (o + 1))), (3, .int (zmoI g b7 k (o + 1))), (0, .ref q1), (1, .int (nI b7)), (2, .int (nI k))] := Eq.subst (motive := fun zz_ => lv_has ls 5 [(4, .int (nI (o + 1))), (3, .int zz_), (0, .ref q1), (1, .int (nI b7)), (2, .int (nI k))]) e_9 hl
          exact ih_2 _ _ _ (by omega) ⟨hP, hD, hS, hl⟩
        · have c_8 : ¬ ((zmoI g b7 k o) = (-9)) := c_8
          have hE : zmoI g b7 k o = nI (zmo g b7 k o) := zmoI_nat c_8
          have hl : lv_has ls 5 [(4, .int (nI o)), (3, .int (nI (zmo g b7 k o))), (0, .ref q1), (1, .int (nI b7)), (2, .int (nI k))] := Eq.subst (motive := fun zz_ => lv_has ls 5 [(4, .int (nI o)), (3, .int zz_), (0, .ref q1), (1, .int (nI b7)), (2, .int (nI k))]) hE hl
          have hn9 := c_8
          refine lv_aload_n hx hb dX9_learn_35 rfl (lv_at hl 2 rfl) ?_
          refine lv_iload_n hx hb dX9_learn_36 rfl (lv_at hl 3 rfl) ?_
          refine lv_iload hx hb dX9_learn_37 (lv_at hl 0 rfl) ?_
          refine lv_iadd hx hb dX9_learn_39 ?_
          refine z_top (y := nI (b7 + o)) (z_add _ _) ?_
          refine z_iald (n := 36) (f := g) (j := b7 + o) Z hP 0 rfl (by omega) (by decide) dX9_learn_40 ?_
          refine lv_aload_n hx hb dX9_learn_41 rfl (lv_at hl 2 rfl) ?_
          refine lv_iload_n hx hb dX9_learn_42 rfl (lv_at hl 3 rfl) ?_
          refine lv_iload_n hx hb dX9_learn_43 rfl (lv_at hl 1 rfl) ?_
          refine lv_iadd hx hb dX9_learn_44 ?_
          refine z_top (y := nI (b7 + (zmo g b7 k o))) (z_add _ _) ?_
          refine z_iald (n := 36) (f := g) (j := b7 + (zmo g b7 k o)) Z hP 0 rfl (by omega) (by decide) dX9_learn_45 ?_
          refine lv_icmp_le (tgt := 54) hx hb dX9_learn_46 (by decide) (fun c_10 => ?_) (fun c_10 => ?_)
          · have c_10 : (g (b7 + o)) ≤ (g (b7 + (zmo g b7 k o))) := c_10
            refine lv_iload_n hx hb dX9_learn_54 rfl (lv_at hl 1 rfl) ?_
            refine lv_istore_n (lv' := [(3, .int (nI (zmo g b7 k o))), (4, .int (nI o)), (0, .ref q1), (1, .int (nI b7)), (2, .int (nI k))]) hx hb dX9_learn_55 rfl hl (by decide) rfl (fun ls hl => ?_)
            refine lv_iinc (v := nI (o + 1)) (lv' := [(4, .int (nI (o + 1))), (3, .int (nI (zmo g b7 k o))), (0, .ref q1), (1, .int (nI b7)), (2, .int (nI k))]) hx hb dX9_learn_56 hl (k := 1) rfl (z_inc _ 1) (by decide) rfl (fun ls hl => ?_)
            refine lv_goto (tgt := 17) hx hb dX9_learn_59 (by decide) ?_
            have hl : lv_has ls 5 [(4, .int (nI (o + 1))), (3, .int (nI (zmo g b7 k o))), (0, .ref q1), (1, .int (nI b7)), (2, .int (nI k))] := lv_sub hl [0, 1, 2, 3, 4] rfl
            have e_11 : nI (zmo g b7 k o) = zmoI g b7 k (o + 1) := by first | exact zmoI_skip (by assumption) (by omega) | exact zmoI_first (by assumption) (by omega) (by assumption) | exact zmoI_le (by assumption) (by assumption) (by assumption) | exact zmoI_gt (by assumption) (by assumption) (by assumption) | rfl
            have hl : lv_has ls 5 [(4, .int (nI (o + 1))), (3, .int (zmoI g b7 k (o + 1))), (0, .ref q1), (1, .int (nI b7)), (2, .int (nI k))] := Eq.subst (motive := fun zz_ => lv_has ls 5 [(4, .int (nI (o + 1))), (3, .int zz_), (0, .ref q1), (1, .int (nI b7)), (2, .int (nI k))]) e_11 hl
            exact ih_2 _ _ _ (by omega) ⟨hP, hD, hS, hl⟩
          · have c_10 : ¬ ((g (b7 + o)) ≤ (g (b7 + (zmo g b7 k o)))) := c_10
            refine lv_iload hx hb dX9_learn_49 (lv_at hl 0 rfl) ?_
            refine lv_goto (tgt := 55) hx hb dX9_learn_51 (by decide) ?_
            refine lv_istore_n (lv' := [(3, .int (nI o)), (4, .int (nI o)), (0, .ref q1), (1, .int (nI b7)), (2, .int (nI k))]) hx hb dX9_learn_55 rfl hl (by decide) rfl (fun ls hl => ?_)
            refine lv_iinc (v := nI (o + 1)) (lv' := [(4, .int (nI (o + 1))), (3, .int (nI o)), (0, .ref q1), (1, .int (nI b7)), (2, .int (nI k))]) hx hb dX9_learn_56 hl (k := 1) rfl (z_inc _ 1) (by decide) rfl (fun ls hl => ?_)
            refine lv_goto (tgt := 17) hx hb dX9_learn_59 (by decide) ?_
            have hl : lv_has ls 5 [(4, .int (nI (o + 1))), (3, .int (nI o)), (0, .ref q1), (1, .int (nI b7)), (2, .int (nI k))] := lv_sub hl [0, 1, 2, 3, 4] rfl
            have e_12 : nI o = zmoI g b7 k (o + 1) := by first | exact zmoI_skip (by assumption) (by omega) | exact zmoI_first (by assumption) (by omega) (by assumption) | exact zmoI_le (by assumption) (by assumption) (by assumption) | exact zmoI_gt (by assumption) (by assumption) (by assumption) | rfl
            have hl : lv_has ls 5 [(4, .int (nI (o + 1))), (3, .int (zmoI g b7 k (o + 1))), (0, .ref q1), (1, .int (nI b7)), (2, .int (nI k))] := Eq.subst (motive := fun zz_ => lv_has ls 5 [(4, .int (nI (o + 1))), (3, .int zz_), (0, .ref q1), (1, .int (nI b7)), (2, .int (nI k))]) e_12 hl
            exact ih_2 _ _ _ (by omega) ⟨hP, hD, hS, hl⟩
  · have c_1 : (g (b7 + k)) = 10 := c_1
    have e_13 : g = zml g b7 k := by first | (unfold zml; rw [if_pos (by assumption)]) | (unfold zml; rw [if_neg (by assumption)]) | rfl
    have hP : va_P D vwCl [(q1, .inl (cI, 36, .inl (zml g b7 k)))] H := Eq.subst (motive := fun zz_ => va_P D vwCl [(q1, .inl (cI, 36, .inl zz_))] H) e_13 hP
    have hD : va_D A [(q1, .inl (cI, 36, .inl (zml g b7 k)))] := zD_of hD rfl
    exact z_vret Z () trivial hP hS dX9_learn_10

theorem dX9_goEvent_0 : decode cX9_goEvent 0 = .ok (.iconst 0, 1) := by decide +kernel
theorem dX9_goEvent_1 : decode cX9_goEvent 1 = .ok (.istore_n 3, 1) := by decide +kernel
theorem dX9_goEvent_2 : decode cX9_goEvent 2 = .ok (.iconst 0, 1) := by decide +kernel
theorem dX9_goEvent_3 : decode cX9_goEvent 3 = .ok (.istore 4, 2) := by decide +kernel
theorem dX9_goEvent_5 : decode cX9_goEvent 5 = .ok (.iload 4, 2) := by decide +kernel
theorem dX9_goEvent_7 : decode cX9_goEvent 7 = .ok (.aload_n 0, 1) := by decide +kernel
theorem dX9_goEvent_8 : decode cX9_goEvent 8 = .ok (.getfield 66, 3) := by decide +kernel
theorem dX9_goEvent_11 : decode cX9_goEvent 11 = .ok (.if_icmp .ge 71, 3) := by decide +kernel
theorem dX9_goEvent_14 : decode cX9_goEvent 14 = .ok (.aload_n 0, 1) := by decide +kernel
theorem dX9_goEvent_15 : decode cX9_goEvent 15 = .ok (.aload_n 1, 1) := by decide +kernel
theorem dX9_goEvent_16 : decode cX9_goEvent 16 = .ok (.iload 4, 2) := by decide +kernel
theorem dX9_goEvent_18 : decode cX9_goEvent 18 = .ok (.iload_n 2, 1) := by decide +kernel
theorem dX9_goEvent_19 : decode cX9_goEvent 19 = .ok (.invokevirtual 156, 3) := by decide +kernel
theorem dX9_goEvent_22 : decode cX9_goEvent 22 = .ok (.istore 5, 2) := by decide +kernel
theorem dX9_goEvent_24 : decode cX9_goEvent 24 = .ok (.iload_n 3, 1) := by decide +kernel
theorem dX9_goEvent_25 : decode cX9_goEvent 25 = .ok (.iload 5, 2) := by decide +kernel
theorem dX9_goEvent_27 : decode cX9_goEvent 27 = .ok (.iadd, 1) := by decide +kernel
theorem dX9_goEvent_28 : decode cX9_goEvent 28 = .ok (.istore_n 3, 1) := by decide +kernel
theorem dX9_goEvent_29 : decode cX9_goEvent 29 = .ok (.aload_n 1, 1) := by decide +kernel
theorem dX9_goEvent_30 : decode cX9_goEvent 30 = .ok (.bipush 7, 2) := by decide +kernel
theorem dX9_goEvent_32 : decode cX9_goEvent 32 = .ok (.iload 4, 2) := by decide +kernel
theorem dX9_goEvent_34 : decode cX9_goEvent 34 = .ok (.imul, 1) := by decide +kernel
theorem dX9_goEvent_35 : decode cX9_goEvent 35 = .ok (.iconst 4, 1) := by decide +kernel
theorem dX9_goEvent_36 : decode cX9_goEvent 36 = .ok (.iadd, 1) := by decide +kernel
theorem dX9_goEvent_37 : decode cX9_goEvent 37 = .ok (.dup2, 1) := by decide +kernel
theorem dX9_goEvent_38 : decode cX9_goEvent 38 = .ok (.iaload, 1) := by decide +kernel
theorem dX9_goEvent_39 : decode cX9_goEvent 39 = .ok (.iload 5, 2) := by decide +kernel
theorem dX9_goEvent_41 : decode cX9_goEvent 41 = .ok (.isub, 1) := by decide +kernel
theorem dX9_goEvent_42 : decode cX9_goEvent 42 = .ok (.iastore, 1) := by decide +kernel
theorem dX9_goEvent_43 : decode cX9_goEvent 43 = .ok (.aload_n 1, 1) := by decide +kernel
theorem dX9_goEvent_44 : decode cX9_goEvent 44 = .ok (.bipush 7, 2) := by decide +kernel
theorem dX9_goEvent_46 : decode cX9_goEvent 46 = .ok (.iload 4, 2) := by decide +kernel
theorem dX9_goEvent_48 : decode cX9_goEvent 48 = .ok (.imul, 1) := by decide +kernel
theorem dX9_goEvent_49 : decode cX9_goEvent 49 = .ok (.iload_n 2, 1) := by decide +kernel
theorem dX9_goEvent_50 : decode cX9_goEvent 50 = .ok (.invokestatic 160, 3) := by decide +kernel
theorem dX9_goEvent_53 : decode cX9_goEvent 53 = .ok (.aload_n 1, 1) := by decide +kernel
theorem dX9_goEvent_54 : decode cX9_goEvent 54 = .ok (.bipush 7, 2) := by decide +kernel
theorem dX9_goEvent_56 : decode cX9_goEvent 56 = .ok (.iload 4, 2) := by decide +kernel
theorem dX9_goEvent_58 : decode cX9_goEvent 58 = .ok (.imul, 1) := by decide +kernel
theorem dX9_goEvent_59 : decode cX9_goEvent 59 = .ok (.iconst 5, 1) := by decide +kernel
theorem dX9_goEvent_60 : decode cX9_goEvent 60 = .ok (.iadd, 1) := by decide +kernel
theorem dX9_goEvent_61 : decode cX9_goEvent 61 = .ok (.bipush (-9), 2) := by decide +kernel
theorem dX9_goEvent_63 : decode cX9_goEvent 63 = .ok (.iastore, 1) := by decide +kernel
theorem dX9_goEvent_64 : decode cX9_goEvent 64 = .ok (.aload_n 1, 1) := by decide +kernel
theorem dX9_goEvent_65 : decode cX9_goEvent 65 = .ok (.bipush 7, 2) := by decide +kernel
theorem dX9_goEvent_67 : decode cX9_goEvent 67 = .ok (.iload 4, 2) := by decide +kernel
theorem dX9_goEvent_69 : decode cX9_goEvent 69 = .ok (.imul, 1) := by decide +kernel
theorem dX9_goEvent_70 : decode cX9_goEvent 70 = .ok (.bipush 6, 2) := by decide +kernel
theorem dX9_goEvent_72 : decode cX9_goEvent 72 = .ok (.iadd, 1) := by decide +kernel
theorem dX9_goEvent_73 : decode cX9_goEvent 73 = .ok (.bipush (-9), 2) := by decide +kernel
theorem dX9_goEvent_75 : decode cX9_goEvent 75 = .ok (.iastore, 1) := by decide +kernel
theorem dX9_goEvent_76 : decode cX9_goEvent 76 = .ok (.iinc 4 1, 3) := by decide +kernel
theorem dX9_goEvent_79 : decode cX9_goEvent 79 = .ok (.goto (-74), 3) := by decide +kernel
theorem dX9_goEvent_82 : decode cX9_goEvent 82 = .ok (.aload_n 1, 1) := by decide +kernel
theorem dX9_goEvent_83 : decode cX9_goEvent 83 = .ok (.bipush 35, 2) := by decide +kernel
theorem dX9_goEvent_85 : decode cX9_goEvent 85 = .ok (.dup2, 1) := by decide +kernel
theorem dX9_goEvent_86 : decode cX9_goEvent 86 = .ok (.iaload, 1) := by decide +kernel
theorem dX9_goEvent_87 : decode cX9_goEvent 87 = .ok (.iconst 1, 1) := by decide +kernel
theorem dX9_goEvent_88 : decode cX9_goEvent 88 = .ok (.iadd, 1) := by decide +kernel
theorem dX9_goEvent_89 : decode cX9_goEvent 89 = .ok (.iastore, 1) := by decide +kernel
theorem dX9_goEvent_90 : decode cX9_goEvent 90 = .ok (.iload_n 3, 1) := by decide +kernel
theorem dX9_goEvent_91 : decode cX9_goEvent 91 = .ok (.ireturn, 1) := by decide +kernel
theorem zd_X9_goEvent : yX9_goEvent.cls ≠ "java/lang/invoke/MethodHandle" ∧ yX9_goEvent.cls ≠ "java/lang/invoke/VarHandle" ∧ (parseMethodDescriptor yX9_goEvent.desc).map (fun d => d.parameters.length) = some 2 := by decide +kernel
set_option maxHeartbeats 4000000 in
set_option maxRecDepth 100000 in
theorem zc_X9_goEvent (l : Launch) (D : va_G) (cI cZ : ClassId) (M : Nat) (th : Int32) (mtx : Nat) (len : Nat) (pl : Nat) (rt : Int32) (fr : Int32) (pr : Int32) (mod_ : Nat) (n : Nat) (mne : Nat) (mro : Nat) (m : Nat) (rrt : Int32) (rfr : Int32) (rpr : Int32) (mrod : Nat) (rn9 : Nat) (mrne : Nat) (mrro : Nat) (rm9 : Nat) (mrp : Nat) (mpg : Nat) (mbk : Nat) (ac : Nat) (mke : Nat) (mik : Nat) (cr : Nat) (mrw : Nat) (mrd : Nat) (sd : Int64) (mtr : Nat) (mwo : Nat) (mnx : Nat) (jr : Int32) (q1 : Nat) (g : Nat → Int32) (f : Nat → Int32) (k : Nat) (hn : n ≤ 5) (hk : k < 4) (hpg : zpr n f g) (hpv : zpv n f) : zI l yX9_goEvent cX9_goEvent 6 .int 2 49 D cI cZ [.ref M, .ref q1, .int (nI k)] [(M, .inr (9, [.int th, .ref mtx, .int (nI len), .int (nI pl), .int rt, .int fr, .int pr, .ref mod_, .int (nI n), .ref mne, .ref mro, .int (nI m), .int rrt, .int rfr, .int rpr, .ref mrod, .int (nI rn9), .ref mrne, .ref mrro, .int (nI rm9), .ref mrp, .ref mpg, .ref mbk, .int (nI ac), .ref mke, .ref mik, .int (nI cr), .ref mrw, .ref mrd, .long sd, .ref mtr, .ref mwo, .ref mnx, .int jr])), (q1, .inl (cI, 36, .inl g))] (fun (r : Int32) (u : (Nat → Int32)) => (r = zcs f rt fr k n) ∧ (zpr n (zcome f rt fr n k) u)) (fun (u : (Nat → Int32)) => [(M, .inr (9, [.int th, .ref mtx, .int (nI len), .int (nI pl), .int rt, .int fr, .int pr, .ref mod_, .int (nI n), .ref mne, .ref mro, .int (nI m), .int rrt, .int rfr, .int rpr, .ref mrod, .int (nI rn9), .ref mrne, .ref mrro, .int (nI rm9), .ref mrp, .ref mpg, .ref mbk, .int (nI ac), .ref mke, .ref mik, .int (nI cr), .ref mrw, .ref mrd, .long sd, .ref mtr, .ref mwo, .ref mnx, .int jr])), (q1, .inl (cI, 36, .inl u))]) := by
  refine zI_of (by decide) (Nat.le_of_ble_eq_true rfl) ?_
  intro pP eE sS mM aA bB mT cC A ls Z hP hD hS hl
  have hx := Z.1
  have hb := Z.2.1
  have hown := Z.2.2.2.2.2.1
  have hts := Z.2.2.2.2.1
  have Z : zAt pP sS mM aA mT cC D cI cZ A "SurpriseTaxModel" cX9_goEvent 6 (some .int) := Z
  have hl : lv_has ls 6 [(0, .ref M), (1, .ref q1), (2, .int (nI k))] := hl
  obtain ⟨H, hH⟩ : ∃ H, H = sS.heap := ⟨_, rfl⟩
  have hP : va_P D vwCl [(M, .inr (9, [.int th, .ref mtx, .int (nI len), .int (nI pl), .int rt, .int fr, .int pr, .ref mod_, .int (nI n), .ref mne, .ref mro, .int (nI m), .int rrt, .int rfr, .int rpr, .ref mrod, .int (nI rn9), .ref mrne, .ref mrro, .int (nI rm9), .ref mrp, .ref mpg, .ref mbk, .int (nI ac), .ref mke, .ref mik, .int (nI cr), .ref mrw, .ref mrd, .long sd, .ref mtr, .ref mwo, .ref mnx, .int jr])), (q1, .inl (cI, 36, .inl g))] H := by rw [hH]; exact hP
  have hS : va_S A sS.heap H [] := by rw [hH]; exact hS
  rw [← hH]
  clear hH
  obtain ⟨locs, hlo⟩ : ∃ q : List Loc, q = [] := ⟨_, rfl⟩
  rw [← hlo] at hS ⊢
  clear hlo
  refine lv_iconst (v := nI 0) hx hb dX9_goEvent_0 (by decide) ?_
  refine lv_istore_n (lv' := [(3, .int (nI 0)), (0, .ref M), (1, .ref q1), (2, .int (nI k))]) hx hb dX9_goEvent_1 rfl hl (by decide) rfl (fun ls hl => ?_)
  refine lv_iconst (v := nI 0) hx hb dX9_goEvent_2 (by decide) ?_
  refine lv_istore (lv' := [(4, .int (nI 0)), (3, .int (nI 0)), (0, .ref M), (1, .ref q1), (2, .int (nI k))]) hx hb dX9_goEvent_3 hl (by decide) rfl (fun ls hl => ?_)
  have hl : lv_has ls 6 [(4, .int (nI 0)), (3, .int (nI 0)), (0, .ref M), (1, .ref q1), (2, .int (nI k))] := lv_sub hl [0, 1, 2, 3, 4] rfl
  have e_2 : nI 0 = zcs f rt fr k 0 := by rfl
  have hl : lv_has ls 6 [(4, .int (nI 0)), (3, .int (zcs f rt fr k 0)), (0, .ref M), (1, .ref q1), (2, .int (nI k))] := Eq.subst (motive := fun zz_ => lv_has ls 6 [(4, .int (nI 0)), (3, .int zz_), (0, .ref M), (1, .ref q1), (2, .int (nI k))]) e_2 hl
  refine z_loopm (fun (x_ : Nat × (Nat → Int32)) H locs ls => va_P D vwCl [(M, .inr (9, [.int th, .ref mtx, .int (nI len), .int (nI pl), .int rt, .int fr, .int pr, .ref mod_, .int (nI n), .ref mne, .ref mro, .int (nI m), .int rrt, .int rfr, .int rpr, .ref mrod, .int (nI rn9), .ref mrne, .ref mrro, .int (nI rm9), .ref mrp, .ref mpg, .ref mbk, .int (nI ac), .ref mke, .ref mik, .int (nI cr), .ref mrw, .ref mrd, .long sd, .ref mtr, .ref mwo, .ref mnx, .int jr])), (q1, .inl (cI, 36, .inl x_.2))] H ∧ va_D A [(M, .inr (9, [.int th, .ref mtx, .int (nI len), .int (nI pl), .int rt, .int fr, .int pr, .ref mod_, .int (nI n), .ref mne, .ref mro, .int (nI m), .int rrt, .int rfr, .int rpr, .ref mrod, .int (nI rn9), .ref mrne, .ref mrro, .int (nI rm9), .ref mrp, .ref mpg, .ref mbk, .int (nI ac), .ref mke, .ref mik, .int (nI cr), .ref mrw, .ref mrd, .long sd, .ref mtr, .ref mwo, .ref mnx, .int jr])), (q1, .inl (cI, 36, .inl x_.2))] ∧ va_S A sS.heap H locs ∧ lv_has ls 6 [(4, .int (nI x_.1)), (3, .int (zcs f rt fr k x_.1)), (0, .ref M), (1, .ref q1), (2, .int (nI k))] ∧ (x_.1 ≤ n) ∧ (zpi n x_.1 (zcm f rt fr k x_.1) x_.2)) (fun x_ => n - x_.1) (0, g) ⟨hP, hD, hS, hl, (by first | exact zpi_0 hpg | omega), (by first | exact zpi_0 hpg | omega)⟩ (fun x_ ih_1 H locs ls hI => ?_)
  obtain ⟨i, g9⟩ := x_
  obtain ⟨hP, hD, hS, hl, hv5_0, hv5_1⟩ := hI
  dsimp only at ih_1 hv5_0 hv5_1
  have hv5_0 : i ≤ n := hv5_0
  have hv5_1 : zpi n i (zcm f rt fr k i) g9 := hv5_1
  have hP : va_P D vwCl [(M, .inr (9, [.int th, .ref mtx, .int (nI len), .int (nI pl), .int rt, .int fr, .int pr, .ref mod_, .int (nI n), .ref mne, .ref mro, .int (nI m), .int rrt, .int rfr, .int rpr, .ref mrod, .int (nI rn9), .ref mrne, .ref mrro, .int (nI rm9), .ref mrp, .ref mpg, .ref mbk, .int (nI ac), .ref mke, .ref mik, .int (nI cr), .ref mrw, .ref mrd, .long sd, .ref mtr, .ref mwo, .ref mnx, .int jr])), (q1, .inl (cI, 36, .inl g9))] H := hP
  have hD : va_D A [(M, .inr (9, [.int th, .ref mtx, .int (nI len), .int (nI pl), .int rt, .int fr, .int pr, .ref mod_, .int (nI n), .ref mne, .ref mro, .int (nI m), .int rrt, .int rfr, .int rpr, .ref mrod, .int (nI rn9), .ref mrne, .ref mrro, .int (nI rm9), .ref mrp, .ref mpg, .ref mbk, .int (nI ac), .ref mke, .ref mik, .int (nI cr), .ref mrw, .ref mrd, .long sd, .ref mtr, .ref mwo, .ref mnx, .int jr])), (q1, .inl (cI, 36, .inl g9))] := hD
  have hl : lv_has ls 6 [(4, .int (nI i)), (3, .int (zcs f rt fr k i)), (0, .ref M), (1, .ref q1), (2, .int (nI k))] := hl
  have hvi := zcm_v (rt := rt) (fr := fr) hpv hn hk i hv5_0
  refine lv_iload hx hb dX9_goEvent_5 (lv_at hl 0 rfl) ?_
  refine lv_aload_n hx hb dX9_goEvent_7 rfl (lv_at hl 2 rfl) ?_
  refine z_get (ci := 9) (v := .int (nI n)) Z zin9 hP 0 rfl rfl 8 (by decide) zm685 rfl rfl dX9_goEvent_8 ?_
  refine lv_icmp_ge (tgt := 82) hx hb dX9_goEvent_11 (by decide) (fun c_3 => ?_) (fun c_3 => ?_)
  · have c_3 := zle (i := n) (j := i) (by omega) (by omega) c_3
    have hE_ : n = i := by omega
    subst hE_
    refine lv_aload_n hx hb dX9_goEvent_82 rfl (lv_at hl 3 rfl) ?_
    refine lv_bipush (v := nI 35) hx hb dX9_goEvent_83 (by decide) ?_
    refine lv_dup2_11 hx hb dX9_goEvent_85 rfl rfl ?_
    refine z_iald (n := 36) (f := g9) (j := 35) Z hP 1 rfl (by decide) (by decide) dX9_goEvent_86 ?_
    refine lv_iconst (v := nI 1) hx hb dX9_goEvent_87 (by decide) ?_
    refine lv_iadd hx hb dX9_goEvent_88 ?_
    refine z_top (y := (g9 35) + 1) rfl ?_
    refine z_iast (n := 36) (f := g9) (j := 35) (x := (g9 35) + 1) Z hP hD hS 1 rfl (by decide) (by decide) dX9_goEvent_89 (fun H locs hP hD hS => ?_)
    have hP : va_P D vwCl [(M, .inr (9, [.int th, .ref mtx, .int (nI len), .int (nI pl), .int rt, .int fr, .int pr, .ref mod_, .int (nI n), .ref mne, .ref mro, .int (nI m), .int rrt, .int rfr, .int rpr, .ref mrod, .int (nI rn9), .ref mrne, .ref mrro, .int (nI rm9), .ref mrp, .ref mpg, .ref mbk, .int (nI ac), .ref mke, .ref mik, .int (nI cr), .ref mrw, .ref mrd, .long sd, .ref mtr, .ref mwo, .ref mnx, .int jr])), (q1, .inl (cI, 36, .inl (upd g9 35 ((g9 35) + 1))))] H := hP
    have hD : va_D A [(M, .inr (9, [.int th, .ref mtx, .int (nI len), .int (nI pl), .int rt, .int fr, .int pr, .ref mod_, .int (nI n), .ref mne, .ref mro, .int (nI m), .int rrt, .int rfr, .int rpr, .ref mrod, .int (nI rn9), .ref mrne, .ref mrro, .int (nI rm9), .ref mrp, .ref mpg, .ref mbk, .int (nI ac), .ref mke, .ref mik, .int (nI cr), .ref mrw, .ref mrd, .long sd, .ref mtr, .ref mwo, .ref mnx, .int jr])), (q1, .inl (cI, 36, .inl (upd g9 35 ((g9 35) + 1))))] := hD
    refine lv_iload_n hx hb dX9_goEvent_90 rfl (lv_at hl 1 rfl) ?_
    exact z_iret Z (upd g9 35 ((g9 35) + 1)) ⟨rfl, (by exact zcom_end hv5_1 hn)⟩ hP hS dX9_goEvent_91
  · have c_3 := znle (i := n) (j := i) (by omega) (by omega) c_3
    refine lv_aload_n hx hb dX9_goEvent_14 rfl (lv_at hl 2 rfl) ?_
    refine lv_aload_n hx hb dX9_goEvent_15 rfl (lv_at hl 3 rfl) ?_
    refine lv_iload hx hb dX9_goEvent_16 (lv_at hl 0 rfl) ?_
    refine lv_iload_n hx hb dX9_goEvent_18 rfl (lv_at hl 4 rfl) ?_
    refine z_callVi (As := [.ref q1, .int (nI i), .int (nI k)]) (rest := []) (ci := 9) (k0 := 0) Z hP hD hS hl.1 (zc_X9_taxOf l D cI cZ M th mtx len pl rt fr pr mod_ n mne mro m rrt rfr rpr mrod rn9 mrne mrro rm9 mrp mpg mbk ac mke mik cr mrw mrd sd mtr mwo mnx jr q1 g9 (zcm f rt fr k i) i k (by first | omega | exact zpi_1 hv5_1 (by omega)) (by first | omega | exact zpi_1 hv5_1 (by omega)) (by first | omega | exact zpi_1 hv5_1 (by omega))) zm823 zm824 zm22 zm39 zm825 ⟨rfl, zd_X9_taxOf⟩ ⟨Nat.le_of_ble_eq_true rfl, Nat.le_of_ble_eq_true rfl⟩ ⟨Nat.zero_le _, Nat.zero_le _⟩ [0, 1] rfl (by decide) rfl rfl rfl (fun _ => rfl) rfl (Nat.le_of_ble_eq_true rfl) rfl dX9_goEvent_19 (fun r_4 u H locs h_5 hP hD hS => ?_)
    have hP : va_P D vwCl [(M, .inr (9, [.int th, .ref mtx, .int (nI len), .int (nI pl), .int rt, .int fr, .int pr, .ref mod_, .int (nI n), .ref mne, .ref mro, .int (nI m), .int rrt, .int rfr, .int rpr, .ref mrod, .int (nI rn9), .ref mrne, .ref mrro, .int (nI rm9), .ref mrp, .ref mpg, .ref mbk, .int (nI ac), .ref mke, .ref mik, .int (nI cr), .ref mrw, .ref mrd, .long sd, .ref mtr, .ref mwo, .ref mnx, .int jr])), (q1, .inl (cI, 36, .inl g9))] H := hP
    have hD : va_D A [(M, .inr (9, [.int th, .ref mtx, .int (nI len), .int (nI pl), .int rt, .int fr, .int pr, .ref mod_, .int (nI n), .ref mne, .ref mro, .int (nI m), .int rrt, .int rfr, .int rpr, .ref mrod, .int (nI rn9), .ref mrne, .ref mrro, .int (nI rm9), .ref mrp, .ref mpg, .ref mbk, .int (nI ac), .ref mke, .ref mik, .int (nI cr), .ref mrw, .ref mrd, .long sd, .ref mtr, .ref mwo, .ref mnx, .int jr])), (q1, .inl (cI, 36, .inl g9))] := hD
    have h_5 : r_4 = ztax (zcm f rt fr k i) rt fr i k := h_5
    subst h_5
    refine lv_istore (lv' := [(5, .int (ztax (zcm f rt fr k i) rt fr i k)), (4, .int (nI i)), (3, .int (zcs f rt fr k i)), (0, .ref M), (1, .ref q1), (2, .int (nI k))]) hx hb dX9_goEvent_22 hl (by decide) rfl (fun ls hl => ?_)
    refine lv_iload_n hx hb dX9_goEvent_24 rfl (lv_at hl 2 rfl) ?_
    refine lv_iload hx hb dX9_goEvent_25 (lv_at hl 0 rfl) ?_
    refine lv_iadd hx hb dX9_goEvent_27 ?_
    refine z_top (y := (zcs f rt fr k i) + (ztax (zcm f rt fr k i) rt fr i k)) rfl ?_
    refine lv_istore_n (lv' := [(3, .int ((zcs f rt fr k i) + (ztax (zcm f rt fr k i) rt fr i k))), (5, .int (ztax (zcm f rt fr k i) rt fr i k)), (4, .int (nI i)), (0, .ref M), (1, .ref q1), (2, .int (nI k))]) hx hb dX9_goEvent_28 rfl hl (by decide) rfl (fun ls hl => ?_)
    refine lv_aload_n hx hb dX9_goEvent_29 rfl (lv_at hl 4 rfl) ?_
    refine lv_bipush (v := nI 7) hx hb dX9_goEvent_30 (by decide) ?_
    refine lv_iload hx hb dX9_goEvent_32 (lv_at hl 2 rfl) ?_
    refine lv_imul hx hb dX9_goEvent_34 ?_
    refine z_top (y := nI (7 * i)) (z_mul _ _) ?_
    refine lv_iconst (v := nI 4) hx hb dX9_goEvent_35 (by decide) ?_
    refine lv_iadd hx hb dX9_goEvent_36 ?_
    refine z_top (y := nI (7 * i + 4)) (z_add _ _) ?_
    refine lv_dup2_11 hx hb dX9_goEvent_37 rfl rfl ?_
    refine z_iald (n := 36) (f := g9) (j := 7 * i + 4) Z hP 1 rfl (by omega) (by decide) dX9_goEvent_38 ?_
    refine lv_iload hx hb dX9_goEvent_39 (lv_at hl 1 rfl) ?_
    refine lv_isub hx hb dX9_goEvent_41 ?_
    refine z_top (y := (g9 (7 * i + 4)) - (ztax (zcm f rt fr k i) rt fr i k)) rfl ?_
    refine z_iast (n := 36) (f := g9) (j := 7 * i + 4) (x := (g9 (7 * i + 4)) - (ztax (zcm f rt fr k i) rt fr i k)) Z hP hD hS 1 rfl (by omega) (by decide) dX9_goEvent_42 (fun H locs hP hD hS => ?_)
    have hP : va_P D vwCl [(M, .inr (9, [.int th, .ref mtx, .int (nI len), .int (nI pl), .int rt, .int fr, .int pr, .ref mod_, .int (nI n), .ref mne, .ref mro, .int (nI m), .int rrt, .int rfr, .int rpr, .ref mrod, .int (nI rn9), .ref mrne, .ref mrro, .int (nI rm9), .ref mrp, .ref mpg, .ref mbk, .int (nI ac), .ref mke, .ref mik, .int (nI cr), .ref mrw, .ref mrd, .long sd, .ref mtr, .ref mwo, .ref mnx, .int jr])), (q1, .inl (cI, 36, .inl (upd g9 (7 * i + 4) ((g9 (7 * i + 4)) - (ztax (zcm f rt fr k i) rt fr i k)))))] H := hP
    have hD : va_D A [(M, .inr (9, [.int th, .ref mtx, .int (nI len), .int (nI pl), .int rt, .int fr, .int pr, .ref mod_, .int (nI n), .ref mne, .ref mro, .int (nI m), .int rrt, .int rfr, .int rpr, .ref mrod, .int (nI rn9), .ref mrne, .ref mrro, .int (nI rm9), .ref mrp, .ref mpg, .ref mbk, .int (nI ac), .ref mke, .ref mik, .int (nI cr), .ref mrw, .ref mrd, .long sd, .ref mtr, .ref mwo, .ref mnx, .int jr])), (q1, .inl (cI, 36, .inl (upd g9 (7 * i + 4) ((g9 (7 * i + 4)) - (ztax (zcm f rt fr k i) rt fr i k)))))] := hD
    refine lv_aload_n hx hb dX9_goEvent_43 rfl (lv_at hl 4 rfl) ?_
    refine lv_bipush (v := nI 7) hx hb dX9_goEvent_44 (by decide) ?_
    refine lv_iload hx hb dX9_goEvent_46 (lv_at hl 2 rfl) ?_
    refine lv_imul hx hb dX9_goEvent_48 ?_
    refine z_top (y := nI (7 * i)) (z_mul _ _) ?_
    refine lv_iload_n hx hb dX9_goEvent_49 rfl (lv_at hl 5 rfl) ?_
    refine z_callSv (As := [.ref q1, .int (nI (7 * i)), .int (nI k)]) (rest := []) Z hP hD hS hl.1 (zc_X9_learn l D cI cZ q1 (upd g9 (7 * i + 4) ((g9 (7 * i + 4)) - (ztax (zcm f rt fr k i) rt fr i k))) (7 * i) k (by omega) (by omega)) zm829 zm830 zm39 zm831 zd_X9_learn ⟨Nat.le_of_ble_eq_true rfl, Nat.le_of_ble_eq_true rfl⟩ ⟨Nat.zero_le _, Nat.zero_le _⟩ [1] rfl (by decide) (fun _ => rfl) rfl (Nat.le_of_ble_eq_true rfl) rfl dX9_goEvent_50 (fun u H locs h_7 hP hD hS => ?_)
    have hP : va_P D vwCl [(M, .inr (9, [.int th, .ref mtx, .int (nI len), .int (nI pl), .int rt, .int fr, .int pr, .ref mod_, .int (nI n), .ref mne, .ref mro, .int (nI m), .int rrt, .int rfr, .int rpr, .ref mrod, .int (nI rn9), .ref mrne, .ref mrro, .int (nI rm9), .ref mrp, .ref mpg, .ref mbk, .int (nI ac), .ref mke, .ref mik, .int (nI cr), .ref mrw, .ref mrd, .long sd, .ref mtr, .ref mwo, .ref mnx, .int jr])), (q1, .inl (cI, 36, .inl (zml (upd g9 (7 * i + 4) ((g9 (7 * i + 4)) - (ztax (zcm f rt fr k i) rt fr i k))) (7 * i) k)))] H := hP
    have hD : va_D A [(M, .inr (9, [.int th, .ref mtx, .int (nI len), .int (nI pl), .int rt, .int fr, .int pr, .ref mod_, .int (nI n), .ref mne, .ref mro, .int (nI m), .int rrt, .int rfr, .int rpr, .ref mrod, .int (nI rn9), .ref mrne, .ref mrro, .int (nI rm9), .ref mrp, .ref mpg, .ref mbk, .int (nI ac), .ref mke, .ref mik, .int (nI cr), .ref mrw, .ref mrd, .long sd, .ref mtr, .ref mwo, .ref mnx, .int jr])), (q1, .inl (cI, 36, .inl (zml (upd g9 (7 * i + 4) ((g9 (7 * i + 4)) - (ztax (zcm f rt fr k i) rt fr i k))) (7 * i) k)))] := hD
    refine lv_aload_n hx hb dX9_goEvent_53 rfl (lv_at hl 4 rfl) ?_
    refine lv_bipush (v := nI 7) hx hb dX9_goEvent_54 (by decide) ?_
    refine lv_iload hx hb dX9_goEvent_56 (lv_at hl 2 rfl) ?_
    refine lv_imul hx hb dX9_goEvent_58 ?_
    refine z_top (y := nI (7 * i)) (z_mul _ _) ?_
    refine lv_iconst (v := nI 5) hx hb dX9_goEvent_59 (by decide) ?_
    refine lv_iadd hx hb dX9_goEvent_60 ?_
    refine z_top (y := nI (7 * i + 5)) (z_add _ _) ?_
    refine lv_bipush (v := -9) hx hb dX9_goEvent_61 (by decide) ?_
    refine z_iast (n := 36) (f := zml (upd g9 (7 * i + 4) ((g9 (7 * i + 4)) - (ztax (zcm f rt fr k i) rt fr i k))) (7 * i) k) (j := 7 * i + 5) (x := -9) Z hP hD hS 1 rfl (by omega) (by decide) dX9_goEvent_63 (fun H locs hP hD hS => ?_)
    have hP : va_P D vwCl [(M, .inr (9, [.int th, .ref mtx, .int (nI len), .int (nI pl), .int rt, .int fr, .int pr, .ref mod_, .int (nI n), .ref mne, .ref mro, .int (nI m), .int rrt, .int rfr, .int rpr, .ref mrod, .int (nI rn9), .ref mrne, .ref mrro, .int (nI rm9), .ref mrp, .ref mpg, .ref mbk, .int (nI ac), .ref mke, .ref mik, .int (nI cr), .ref mrw, .ref mrd, .long sd, .ref mtr, .ref mwo, .ref mnx, .int jr])), (q1, .inl (cI, 36, .inl (upd (zml (upd g9 (7 * i + 4) ((g9 (7 * i + 4)) - (ztax (zcm f rt fr k i) rt fr i k))) (7 * i) k) (7 * i + 5) (-9))))] H := hP
    have hD : va_D A [(M, .inr (9, [.int th, .ref mtx, .int (nI len), .int (nI pl), .int rt, .int fr, .int pr, .ref mod_, .int (nI n), .ref mne, .ref mro, .int (nI m), .int rrt, .int rfr, .int rpr, .ref mrod, .int (nI rn9), .ref mrne, .ref mrro, .int (nI rm9), .ref mrp, .ref mpg, .ref mbk, .int (nI ac), .ref mke, .ref mik, .int (nI cr), .ref mrw, .ref mrd, .long sd, .ref mtr, .ref mwo, .ref mnx, .int jr])), (q1, .inl (cI, 36, .inl (upd (zml (upd g9 (7 * i + 4) ((g9 (7 * i + 4)) - (ztax (zcm f rt fr k i) rt fr i k))) (7 * i) k) (7 * i + 5) (-9))))] := hD
    refine lv_aload_n hx hb dX9_goEvent_64 rfl (lv_at hl 4 rfl) ?_
    refine lv_bipush (v := nI 7) hx hb dX9_goEvent_65 (by decide) ?_
    refine lv_iload hx hb dX9_goEvent_67 (lv_at hl 2 rfl) ?_
    refine lv_imul hx hb dX9_goEvent_69 ?_
    refine z_top (y := nI (7 * i)) (z_mul _ _) ?_
    refine lv_bipush (v := nI 6) hx hb dX9_goEvent_70 (by decide) ?_
    refine lv_iadd hx hb dX9_goEvent_72 ?_
    refine z_top (y := nI (7 * i + 6)) (z_add _ _) ?_
    refine lv_bipush (v := -9) hx hb dX9_goEvent_73 (by decide) ?_
    refine z_iast (n := 36) (f := upd (zml (upd g9 (7 * i + 4) ((g9 (7 * i + 4)) - (ztax (zcm f rt fr k i) rt fr i k))) (7 * i) k) (7 * i + 5) (-9)) (j := 7 * i + 6) (x := -9) Z hP hD hS 1 rfl (by omega) (by decide) dX9_goEvent_75 (fun H locs hP hD hS => ?_)
    have hP : va_P D vwCl [(M, .inr (9, [.int th, .ref mtx, .int (nI len), .int (nI pl), .int rt, .int fr, .int pr, .ref mod_, .int (nI n), .ref mne, .ref mro, .int (nI m), .int rrt, .int rfr, .int rpr, .ref mrod, .int (nI rn9), .ref mrne, .ref mrro, .int (nI rm9), .ref mrp, .ref mpg, .ref mbk, .int (nI ac), .ref mke, .ref mik, .int (nI cr), .ref mrw, .ref mrd, .long sd, .ref mtr, .ref mwo, .ref mnx, .int jr])), (q1, .inl (cI, 36, .inl (upd (upd (zml (upd g9 (7 * i + 4) ((g9 (7 * i + 4)) - (ztax (zcm f rt fr k i) rt fr i k))) (7 * i) k) (7 * i + 5) (-9)) (7 * i + 6) (-9))))] H := hP
    have hD : va_D A [(M, .inr (9, [.int th, .ref mtx, .int (nI len), .int (nI pl), .int rt, .int fr, .int pr, .ref mod_, .int (nI n), .ref mne, .ref mro, .int (nI m), .int rrt, .int rfr, .int rpr, .ref mrod, .int (nI rn9), .ref mrne, .ref mrro, .int (nI rm9), .ref mrp, .ref mpg, .ref mbk, .int (nI ac), .ref mke, .ref mik, .int (nI cr), .ref mrw, .ref mrd, .long sd, .ref mtr, .ref mwo, .ref mnx, .int jr])), (q1, .inl (cI, 36, .inl (upd (upd (zml (upd g9 (7 * i + 4) ((g9 (7 * i + 4)) - (ztax (zcm f rt fr k i) rt fr i k))) (7 * i) k) (7 * i + 5) (-9)) (7 * i + 6) (-9))))] := hD
    refine lv_iinc (v := nI (i + 1)) (lv' := [(4, .int (nI (i + 1))), (3, .int ((zcs f rt fr k i) + (ztax (zcm f rt fr k i) rt fr i k))), (5, .int (ztax (zcm f rt fr k i) rt fr i k)), (0, .ref M), (1, .ref q1), (2, .int (nI k))]) hx hb dX9_goEvent_76 hl (k := 2) rfl (z_inc _ 1) (by decide) rfl (fun ls hl => ?_)
    refine lv_goto (tgt := 5) hx hb dX9_goEvent_79 (by decide) ?_
    have hl : lv_has ls 6 [(4, .int (nI (i + 1))), (3, .int ((zcs f rt fr k i) + (ztax (zcm f rt fr k i) rt fr i k))), (0, .ref M), (1, .ref q1), (2, .int (nI k))] := lv_sub hl [0, 1, 3, 4, 5] rfl
    have e_8 : (zcs f rt fr k i) + (ztax (zcm f rt fr k i) rt fr i k) = zcs f rt fr k (i + 1) := by rfl
    have hl : lv_has ls 6 [(4, .int (nI (i + 1))), (3, .int (zcs f rt fr k (i + 1))), (0, .ref M), (1, .ref q1), (2, .int (nI k))] := Eq.subst (motive := fun zz_ => lv_has ls 6 [(4, .int (nI (i + 1))), (3, .int zz_), (0, .ref M), (1, .ref q1), (2, .int (nI k))]) e_8 hl
    exact ih_1 (i + 1, upd (upd (zml (upd g9 (7 * i + 4) ((g9 (7 * i + 4)) - (ztax (zcm f rt fr k i) rt fr i k))) (7 * i) k) (7 * i + 5) (-9)) (7 * i + 6) (-9)) _ _ _ (by omega) ⟨hP, hD, hS, hl, (by first | exact zpi_s hv5_1 (by omega) hn hk (hvi i (by omega)) rfl | omega), (by first | exact zpi_s hv5_1 (by omega) hn hk (hvi i (by omega)) rfl | omega)⟩

theorem dX9_note_0 : decode cX9_note 0 = .ok (.aload_n 0, 1) := by decide +kernel
theorem dX9_note_1 : decode cX9_note 1 = .ok (.getfield 137, 3) := by decide +kernel
theorem dX9_note_4 : decode cX9_note 4 = .ok (.bipush 12, 2) := by decide +kernel
theorem dX9_note_6 : decode cX9_note 6 = .ok (.if_icmp .ne 43, 3) := by decide +kernel
theorem dX9_note_9 : decode cX9_note 9 = .ok (.iconst 0, 1) := by decide +kernel
theorem dX9_note_10 : decode cX9_note 10 = .ok (.istore_n 1, 1) := by decide +kernel
theorem dX9_note_11 : decode cX9_note 11 = .ok (.iload_n 1, 1) := by decide +kernel
theorem dX9_note_12 : decode cX9_note 12 = .ok (.sipush 396, 3) := by decide +kernel
theorem dX9_note_15 : decode cX9_note 15 = .ok (.if_icmp .ge 24, 3) := by decide +kernel
theorem dX9_note_18 : decode cX9_note 18 = .ok (.aload_n 0, 1) := by decide +kernel
theorem dX9_note_19 : decode cX9_note 19 = .ok (.getfield 37, 3) := by decide +kernel
theorem dX9_note_22 : decode cX9_note 22 = .ok (.iload_n 1, 1) := by decide +kernel
theorem dX9_note_23 : decode cX9_note 23 = .ok (.aload_n 0, 1) := by decide +kernel
theorem dX9_note_24 : decode cX9_note 24 = .ok (.getfield 37, 3) := by decide +kernel
theorem dX9_note_27 : decode cX9_note 27 = .ok (.iload_n 1, 1) := by decide +kernel
theorem dX9_note_28 : decode cX9_note 28 = .ok (.bipush 36, 2) := by decide +kernel
theorem dX9_note_30 : decode cX9_note 30 = .ok (.iadd, 1) := by decide +kernel
theorem dX9_note_31 : decode cX9_note 31 = .ok (.iaload, 1) := by decide +kernel
theorem dX9_note_32 : decode cX9_note 32 = .ok (.iastore, 1) := by decide +kernel
theorem dX9_note_33 : decode cX9_note 33 = .ok (.iinc 1 1, 3) := by decide +kernel
theorem dX9_note_36 : decode cX9_note 36 = .ok (.goto (-25), 3) := by decide +kernel
theorem dX9_note_39 : decode cX9_note 39 = .ok (.aload_n 0, 1) := by decide +kernel
theorem dX9_note_40 : decode cX9_note 40 = .ok (.dup, 1) := by decide +kernel
theorem dX9_note_41 : decode cX9_note 41 = .ok (.getfield 137, 3) := by decide +kernel
theorem dX9_note_44 : decode cX9_note 44 = .ok (.iconst 1, 1) := by decide +kernel
theorem dX9_note_45 : decode cX9_note 45 = .ok (.isub, 1) := by decide +kernel
theorem dX9_note_46 : decode cX9_note 46 = .ok (.putfield 137, 3) := by decide +kernel
theorem dX9_note_49 : decode cX9_note 49 = .ok (.iconst 0, 1) := by decide +kernel
theorem dX9_note_50 : decode cX9_note 50 = .ok (.istore_n 1, 1) := by decide +kernel
theorem dX9_note_51 : decode cX9_note 51 = .ok (.iload_n 1, 1) := by decide +kernel
theorem dX9_note_52 : decode cX9_note 52 = .ok (.bipush 36, 2) := by decide +kernel
theorem dX9_note_54 : decode cX9_note 54 = .ok (.if_icmp .ge 29, 3) := by decide +kernel
theorem dX9_note_57 : decode cX9_note 57 = .ok (.aload_n 0, 1) := by decide +kernel
theorem dX9_note_58 : decode cX9_note 58 = .ok (.getfield 37, 3) := by decide +kernel
theorem dX9_note_61 : decode cX9_note 61 = .ok (.bipush 36, 2) := by decide +kernel
theorem dX9_note_63 : decode cX9_note 63 = .ok (.aload_n 0, 1) := by decide +kernel
theorem dX9_note_64 : decode cX9_note 64 = .ok (.getfield 137, 3) := by decide +kernel
theorem dX9_note_67 : decode cX9_note 67 = .ok (.imul, 1) := by decide +kernel
theorem dX9_note_68 : decode cX9_note 68 = .ok (.iload_n 1, 1) := by decide +kernel
theorem dX9_note_69 : decode cX9_note 69 = .ok (.iadd, 1) := by decide +kernel
theorem dX9_note_70 : decode cX9_note 70 = .ok (.aload_n 0, 1) := by decide +kernel
theorem dX9_note_71 : decode cX9_note 71 = .ok (.getfield 34, 3) := by decide +kernel
theorem dX9_note_74 : decode cX9_note 74 = .ok (.iload_n 1, 1) := by decide +kernel
theorem dX9_note_75 : decode cX9_note 75 = .ok (.iaload, 1) := by decide +kernel
theorem dX9_note_76 : decode cX9_note 76 = .ok (.iastore, 1) := by decide +kernel
theorem dX9_note_77 : decode cX9_note 77 = .ok (.iinc 1 1, 3) := by decide +kernel
theorem dX9_note_80 : decode cX9_note 80 = .ok (.goto (-29), 3) := by decide +kernel
theorem dX9_note_83 : decode cX9_note 83 = .ok (.aload_n 0, 1) := by decide +kernel
theorem dX9_note_84 : decode cX9_note 84 = .ok (.dup, 1) := by decide +kernel
theorem dX9_note_85 : decode cX9_note 85 = .ok (.getfield 137, 3) := by decide +kernel
theorem dX9_note_88 : decode cX9_note 88 = .ok (.iconst 1, 1) := by decide +kernel
theorem dX9_note_89 : decode cX9_note 89 = .ok (.iadd, 1) := by decide +kernel
theorem dX9_note_90 : decode cX9_note 90 = .ok (.putfield 137, 3) := by decide +kernel
theorem dX9_note_93 : decode cX9_note 93 = .ok (.return_, 1) := by decide +kernel
theorem zd_X9_note : yX9_note.cls ≠ "java/lang/invoke/MethodHandle" ∧ yX9_note.cls ≠ "java/lang/invoke/VarHandle" ∧ (parseMethodDescriptor yX9_note.desc).map (fun d => d.parameters.length) = some 0 := by decide +kernel
set_option maxHeartbeats 4000000 in
set_option maxRecDepth 100000 in
theorem zc_X9_note (l : Launch) (D : va_G) (cI cZ : ClassId) (M : Nat) (th : Int32) (mtx : Nat) (len : Nat) (pl : Nat) (rt : Int32) (fr : Int32) (pr : Int32) (mod_ : Nat) (n : Nat) (mne : Nat) (mro : Nat) (m : Nat) (rrt : Int32) (rfr : Int32) (rpr : Int32) (mrod : Nat) (rn9 : Nat) (mrne : Nat) (mrro : Nat) (rm9 : Nat) (mrp : Nat) (mpg : Nat) (mbk : Nat) (ac : Nat) (mke : Nat) (mik : Nat) (cr : Nat) (mrw : Nat) (mrd : Nat) (sd : Int64) (mtr : Nat) (mwo : Nat) (mnx : Nat) (jr : Int32) (g : Nat → Int32) (bk : Nat → Int32) (hac : ac ≤ 12) : zV l yX9_note cX9_note 2 0 0 D cI cZ [.ref M] [(M, .inr (9, [.int th, .ref mtx, .int (nI len), .int (nI pl), .int rt, .int fr, .int pr, .ref mod_, .int (nI n), .ref mne, .ref mro, .int (nI m), .int rrt, .int rfr, .int rpr, .ref mrod, .int (nI rn9), .ref mrne, .ref mrro, .int (nI rm9), .ref mrp, .ref mpg, .ref mbk, .int (nI ac), .ref mke, .ref mik, .int (nI cr), .ref mrw, .ref mrd, .long sd, .ref mtr, .ref mwo, .ref mnx, .int jr])), (mpg, .inl (cI, 36, .inl g)), (mbk, .inl (cI, 432, .inl bk))] (fun (u : Unit) => True) (fun (u : Unit) => [(M, .inr (9, [.int th, .ref mtx, .int (nI len), .int (nI pl), .int rt, .int fr, .int pr, .ref mod_, .int (nI n), .ref mne, .ref mro, .int (nI m), .int rrt, .int rfr, .int rpr, .ref mrod, .int (nI rn9), .ref mrne, .ref mrro, .int (nI rm9), .ref mrp, .ref mpg, .ref mbk, .int (nI (zna ac + 1)), .ref mke, .ref mik, .int (nI cr), .ref mrw, .ref mrd, .long sd, .ref mtr, .ref mwo, .ref mnx, .int jr])), (mpg, .inl (cI, 36, .inl g)), (mbk, .inl (cI, 432, .inl (znote g bk ac)))]) := by
  refine zV_of (by decide) (Nat.le_of_ble_eq_true rfl) ?_
  intro pP eE sS mM aA bB mT cC A ls Z hP hD hS hl
  have hx := Z.1
  have hb := Z.2.1
  have hown := Z.2.2.2.2.2.1
  have hts := Z.2.2.2.2.1
  have Z : zAt pP sS mM aA mT cC D cI cZ A "SurpriseTaxModel" cX9_note 2 none := Z
  have hl : lv_has ls 2 [(0, .ref M)] := hl
  obtain ⟨H, hH⟩ : ∃ H, H = sS.heap := ⟨_, rfl⟩
  have hP : va_P D vwCl [(M, .inr (9, [.int th, .ref mtx, .int (nI len), .int (nI pl), .int rt, .int fr, .int pr, .ref mod_, .int (nI n), .ref mne, .ref mro, .int (nI m), .int rrt, .int rfr, .int rpr, .ref mrod, .int (nI rn9), .ref mrne, .ref mrro, .int (nI rm9), .ref mrp, .ref mpg, .ref mbk, .int (nI ac), .ref mke, .ref mik, .int (nI cr), .ref mrw, .ref mrd, .long sd, .ref mtr, .ref mwo, .ref mnx, .int jr])), (mpg, .inl (cI, 36, .inl g)), (mbk, .inl (cI, 432, .inl bk))] H := by rw [hH]; exact hP
  have hS : va_S A sS.heap H [] := by rw [hH]; exact hS
  rw [← hH]
  clear hH
  obtain ⟨locs, hlo⟩ : ∃ q : List Loc, q = [] := ⟨_, rfl⟩
  rw [← hlo] at hS ⊢
  clear hlo
  refine z_cut (fun H locs ls => va_P D vwCl [(M, .inr (9, [.int th, .ref mtx, .int (nI len), .int (nI pl), .int rt, .int fr, .int pr, .ref mod_, .int (nI n), .ref mne, .ref mro, .int (nI m), .int rrt, .int rfr, .int rpr, .ref mrod, .int (nI rn9), .ref mrne, .ref mrro, .int (nI rm9), .ref mrp, .ref mpg, .ref mbk, .int (nI (zna ac)), .ref mke, .ref mik, .int (nI cr), .ref mrw, .ref mrd, .long sd, .ref mtr, .ref mwo, .ref mnx, .int jr])), (mpg, .inl (cI, 36, .inl g)), (mbk, .inl (cI, 432, .inl (zbk bk ac)))] H ∧ va_D A [(M, .inr (9, [.int th, .ref mtx, .int (nI len), .int (nI pl), .int rt, .int fr, .int pr, .ref mod_, .int (nI n), .ref mne, .ref mro, .int (nI m), .int rrt, .int rfr, .int rpr, .ref mrod, .int (nI rn9), .ref mrne, .ref mrro, .int (nI rm9), .ref mrp, .ref mpg, .ref mbk, .int (nI (zna ac)), .ref mke, .ref mik, .int (nI cr), .ref mrw, .ref mrd, .long sd, .ref mtr, .ref mwo, .ref mnx, .int jr])), (mpg, .inl (cI, 36, .inl g)), (mbk, .inl (cI, 432, .inl (zbk bk ac)))] ∧ va_S A sS.heap H locs ∧ lv_has ls 2 [(0, .ref M)]) 49 [] (fun H locs ls hI => ?_) (fun k_1 => ?_)
  · obtain ⟨hP, hD, hS, hl⟩ := hI
    have hna : zna ac ≤ 11 := by unfold zna; split <;> omega
    refine lv_iconst (v := nI 0) hx hb dX9_note_49 (by decide) ?_
    refine lv_istore_n (lv' := [(1, .int (nI 0)), (0, .ref M)]) hx hb dX9_note_50 rfl hl (by decide) rfl (fun ls hl => ?_)
    have e_3 : zbk bk ac = va_cpy g (zbk bk ac) 0 (36 * zna ac) 0 := by first | rw [zcpyT_0] | rfl
    have hP : va_P D vwCl [(M, .inr (9, [.int th, .ref mtx, .int (nI len), .int (nI pl), .int rt, .int fr, .int pr, .ref mod_, .int (nI n), .ref mne, .ref mro, .int (nI m), .int rrt, .int rfr, .int rpr, .ref mrod, .int (nI rn9), .ref mrne, .ref mrro, .int (nI rm9), .ref mrp, .ref mpg, .ref mbk, .int (nI (zna ac)), .ref mke, .ref mik, .int (nI cr), .ref mrw, .ref mrd, .long sd, .ref mtr, .ref mwo, .ref mnx, .int jr])), (mpg, .inl (cI, 36, .inl g)), (mbk, .inl (cI, 432, .inl (va_cpy g (zbk bk ac) 0 (36 * zna ac) 0)))] H := Eq.subst (motive := fun zz_ => va_P D vwCl [(M, .inr (9, [.int th, .ref mtx, .int (nI len), .int (nI pl), .int rt, .int fr, .int pr, .ref mod_, .int (nI n), .ref mne, .ref mro, .int (nI m), .int rrt, .int rfr, .int rpr, .ref mrod, .int (nI rn9), .ref mrne, .ref mrro, .int (nI rm9), .ref mrp, .ref mpg, .ref mbk, .int (nI (zna ac)), .ref mke, .ref mik, .int (nI cr), .ref mrw, .ref mrd, .long sd, .ref mtr, .ref mwo, .ref mnx, .int jr])), (mpg, .inl (cI, 36, .inl g)), (mbk, .inl (cI, 432, .inl zz_))] H) e_3 hP
    have hD : va_D A [(M, .inr (9, [.int th, .ref mtx, .int (nI len), .int (nI pl), .int rt, .int fr, .int pr, .ref mod_, .int (nI n), .ref mne, .ref mro, .int (nI m), .int rrt, .int rfr, .int rpr, .ref mrod, .int (nI rn9), .ref mrne, .ref mrro, .int (nI rm9), .ref mrp, .ref mpg, .ref mbk, .int (nI (zna ac)), .ref mke, .ref mik, .int (nI cr), .ref mrw, .ref mrd, .long sd, .ref mtr, .ref mwo, .ref mnx, .int jr])), (mpg, .inl (cI, 36, .inl g)), (mbk, .inl (cI, 432, .inl (va_cpy g (zbk bk ac) 0 (36 * zna ac) 0)))] := zD_of hD rfl
    have hl : lv_has ls 2 [(1, .int (nI 0)), (0, .ref M)] := lv_sub hl [0, 1] rfl
    refine z_loop (fun i H locs ls => va_P D vwCl [(M, .inr (9, [.int th, .ref mtx, .int (nI len), .int (nI pl), .int rt, .int fr, .int pr, .ref mod_, .int (nI n), .ref mne, .ref mro, .int (nI m), .int rrt, .int rfr, .int rpr, .ref mrod, .int (nI rn9), .ref mrne, .ref mrro, .int (nI rm9), .ref mrp, .ref mpg, .ref mbk, .int (nI (zna ac)), .ref mke, .ref mik, .int (nI cr), .ref mrw, .ref mrd, .long sd, .ref mtr, .ref mwo, .ref mnx, .int jr])), (mpg, .inl (cI, 36, .inl g)), (mbk, .inl (cI, 432, .inl (va_cpy g (zbk bk ac) 0 (36 * zna ac) i)))] H ∧ va_D A [(M, .inr (9, [.int th, .ref mtx, .int (nI len), .int (nI pl), .int rt, .int fr, .int pr, .ref mod_, .int (nI n), .ref mne, .ref mro, .int (nI m), .int rrt, .int rfr, .int rpr, .ref mrod, .int (nI rn9), .ref mrne, .ref mrro, .int (nI rm9), .ref mrp, .ref mpg, .ref mbk, .int (nI (zna ac)), .ref mke, .ref mik, .int (nI cr), .ref mrw, .ref mrd, .long sd, .ref mtr, .ref mwo, .ref mnx, .int jr])), (mpg, .inl (cI, 36, .inl g)), (mbk, .inl (cI, 432, .inl (va_cpy g (zbk bk ac) 0 (36 * zna ac) i)))] ∧ va_S A sS.heap H locs ∧ lv_has ls 2 [(1, .int (nI i)), (0, .ref M)]) (36) (lo := 0) (by omega) ⟨hP, hD, hS, hl⟩ (fun i hi_i ih_2 H locs ls hI => ?_)
    obtain ⟨hP, hD, hS, hl⟩ := hI
    have hP : va_P D vwCl [(M, .inr (9, [.int th, .ref mtx, .int (nI len), .int (nI pl), .int rt, .int fr, .int pr, .ref mod_, .int (nI n), .ref mne, .ref mro, .int (nI m), .int rrt, .int rfr, .int rpr, .ref mrod, .int (nI rn9), .ref mrne, .ref mrro, .int (nI rm9), .ref mrp, .ref mpg, .ref mbk, .int (nI (zna ac)), .ref mke, .ref mik, .int (nI cr), .ref mrw, .ref mrd, .long sd, .ref mtr, .ref mwo, .ref mnx, .int jr])), (mpg, .inl (cI, 36, .inl g)), (mbk, .inl (cI, 432, .inl (va_cpy g (zbk bk ac) 0 (36 * zna ac) i)))] H := hP
    have hD : va_D A [(M, .inr (9, [.int th, .ref mtx, .int (nI len), .int (nI pl), .int rt, .int fr, .int pr, .ref mod_, .int (nI n), .ref mne, .ref mro, .int (nI m), .int rrt, .int rfr, .int rpr, .ref mrod, .int (nI rn9), .ref mrne, .ref mrro, .int (nI rm9), .ref mrp, .ref mpg, .ref mbk, .int (nI (zna ac)), .ref mke, .ref mik, .int (nI cr), .ref mrw, .ref mrd, .long sd, .ref mtr, .ref mwo, .ref mnx, .int jr])), (mpg, .inl (cI, 36, .inl g)), (mbk, .inl (cI, 432, .inl (va_cpy g (zbk bk ac) 0 (36 * zna ac) i)))] := hD
    have hl : lv_has ls 2 [(1, .int (nI i)), (0, .ref M)] := hl
    refine lv_iload_n hx hb dX9_note_51 rfl (lv_at hl 0 rfl) ?_
    refine lv_bipush (v := nI 36) hx hb dX9_note_52 (by decide) ?_
    refine lv_icmp_ge (tgt := 83) hx hb dX9_note_54 (by decide) (fun c_4 => ?_) (fun c_4 => ?_)
    · have c_4 := zle (i := 36) (j := i) (by decide) (by omega) c_4
      have hE_ : 36 = i := by omega
      subst hE_
      refine lv_aload_n hx hb dX9_note_83 rfl (lv_at hl 1 rfl) ?_
      refine lv_dup hx hb dX9_note_84 rfl ?_
      refine z_get (ci := 9) (v := .int (nI (zna ac))) Z zin9 hP 0 rfl rfl 23 (by decide) zm700 rfl rfl dX9_note_85 ?_
      refine lv_iconst (v := nI 1) hx hb dX9_note_88 (by decide) ?_
      refine lv_iadd hx hb dX9_note_89 ?_
      refine z_top (y := nI (zna ac + 1)) (z_add _ _) ?_
      refine z_put (ci := 9) (v := .int (nI (zna ac + 1))) Z zin9 tyX9 tyX9_ok nmX9 hP hD hS 0 rfl rfl 23 (by decide) zm700 rfl rfl rfl rfl (Nat.le_of_ble_eq_true rfl) dX9_note_90 (fun H locs hP hD hS => ?_)
      have hP : va_P D vwCl [(M, .inr (9, [.int th, .ref mtx, .int (nI len), .int (nI pl), .int rt, .int fr, .int pr, .ref mod_, .int (nI n), .ref mne, .ref mro, .int (nI m), .int rrt, .int rfr, .int rpr, .ref mrod, .int (nI rn9), .ref mrne, .ref mrro, .int (nI rm9), .ref mrp, .ref mpg, .ref mbk, .int (nI (zna ac + 1)), .ref mke, .ref mik, .int (nI cr), .ref mrw, .ref mrd, .long sd, .ref mtr, .ref mwo, .ref mnx, .int jr])), (mpg, .inl (cI, 36, .inl g)), (mbk, .inl (cI, 432, .inl (va_cpy g (zbk bk ac) 0 (36 * zna ac) 36)))] H := hP
      have hD : va_D A [(M, .inr (9, [.int th, .ref mtx, .int (nI len), .int (nI pl), .int rt, .int fr, .int pr, .ref mod_, .int (nI n), .ref mne, .ref mro, .int (nI m), .int rrt, .int rfr, .int rpr, .ref mrod, .int (nI rn9), .ref mrne, .ref mrro, .int (nI rm9), .ref mrp, .ref mpg, .ref mbk, .int (nI (zna ac + 1)), .ref mke, .ref mik, .int (nI cr), .ref mrw, .ref mrd, .long sd, .ref mtr, .ref mwo, .ref mnx, .int jr])), (mpg, .inl (cI, 36, .inl g)), (mbk, .inl (cI, 432, .inl (va_cpy g (zbk bk ac) 0 (36 * zna ac) 36)))] := hD
      have e_5 : va_cpy g (zbk bk ac) 0 (36 * zna ac) 36 = znote g bk ac := by (first | rfl | (simp [c_4]; done) | (simp_all []; done))
      have hP : va_P D vwCl [(M, .inr (9, [.int th, .ref mtx, .int (nI len), .int (nI pl), .int rt, .int fr, .int pr, .ref mod_, .int (nI n), .ref mne, .ref mro, .int (nI m), .int rrt, .int rfr, .int rpr, .ref mrod, .int (nI rn9), .ref mrne, .ref mrro, .int (nI rm9), .ref mrp, .ref mpg, .ref mbk, .int (nI (zna ac + 1)), .ref mke, .ref mik, .int (nI cr), .ref mrw, .ref mrd, .long sd, .ref mtr, .ref mwo, .ref mnx, .int jr])), (mpg, .inl (cI, 36, .inl g)), (mbk, .inl (cI, 432, .inl (znote g bk ac)))] H := Eq.subst (motive := fun zz_ => va_P D vwCl [(M, .inr (9, [.int th, .ref mtx, .int (nI len), .int (nI pl), .int rt, .int fr, .int pr, .ref mod_, .int (nI n), .ref mne, .ref mro, .int (nI m), .int rrt, .int rfr, .int rpr, .ref mrod, .int (nI rn9), .ref mrne, .ref mrro, .int (nI rm9), .ref mrp, .ref mpg, .ref mbk, .int (nI (zna ac + 1)), .ref mke, .ref mik, .int (nI cr), .ref mrw, .ref mrd, .long sd, .ref mtr, .ref mwo, .ref mnx, .int jr])), (mpg, .inl (cI, 36, .inl g)), (mbk, .inl (cI, 432, .inl zz_))] H) e_5 hP
      have hD : va_D A [(M, .inr (9, [.int th, .ref mtx, .int (nI len), .int (nI pl), .int rt, .int fr, .int pr, .ref mod_, .int (nI n), .ref mne, .ref mro, .int (nI m), .int rrt, .int rfr, .int rpr, .ref mrod, .int (nI rn9), .ref mrne, .ref mrro, .int (nI rm9), .ref mrp, .ref mpg, .ref mbk, .int (nI (zna ac + 1)), .ref mke, .ref mik, .int (nI cr), .ref mrw, .ref mrd, .long sd, .ref mtr, .ref mwo, .ref mnx, .int jr])), (mpg, .inl (cI, 36, .inl g)), (mbk, .inl (cI, 432, .inl (znote g bk ac)))] := zD_of hD rfl
      exact z_vret Z () trivial hP hS dX9_note_93
    · have c_4 := znle (i := 36) (j := i) (by decide) (by omega) c_4
      refine lv_aload_n hx hb dX9_note_57 rfl (lv_at hl 1 rfl) ?_
      refine z_get (ci := 9) (v := .ref mbk) Z zin9 hP 0 rfl rfl 22 (by decide) zm699 rfl rfl dX9_note_58 ?_
      refine lv_bipush (v := nI 36) hx hb dX9_note_61 (by decide) ?_
      refine lv_aload_n hx hb dX9_note_63 rfl (lv_at hl 1 rfl) ?_
      refine z_get (ci := 9) (v := .int (nI (zna ac))) Z zin9 hP 0 rfl rfl 23 (by decide) zm700 rfl rfl dX9_note_64 ?_
      refine lv_imul hx hb dX9_note_67 ?_
      refine z_top (y := nI (36 * (zna ac))) (z_mul _ _) ?_
      refine lv_iload_n hx hb dX9_note_68 rfl (lv_at hl 0 rfl) ?_
      refine lv_iadd hx hb dX9_note_69 ?_
      refine z_top (y := nI (36 * (zna ac) + i)) (z_add _ _) ?_
      refine lv_aload_n hx hb dX9_note_70 rfl (lv_at hl 1 rfl) ?_
      refine z_get (ci := 9) (v := .ref mpg) Z zin9 hP 0 rfl rfl 21 (by decide) zm698 rfl rfl dX9_note_71 ?_
      refine lv_iload_n hx hb dX9_note_74 rfl (lv_at hl 0 rfl) ?_
      refine z_iald (n := 36) (f := g) (j := i) Z hP 1 rfl (by omega) (by decide) dX9_note_75 ?_
      refine z_iast (n := 432) (f := va_cpy g (zbk bk ac) 0 (36 * zna ac) i) (j := 36 * (zna ac) + i) (x := g i) Z hP hD hS 2 rfl (by omega) (by decide) dX9_note_76 (fun H locs hP hD hS => ?_)
      have hP : va_P D vwCl [(M, .inr (9, [.int th, .ref mtx, .int (nI len), .int (nI pl), .int rt, .int fr, .int pr, .ref mod_, .int (nI n), .ref mne, .ref mro, .int (nI m), .int rrt, .int rfr, .int rpr, .ref mrod, .int (nI rn9), .ref mrne, .ref mrro, .int (nI rm9), .ref mrp, .ref mpg, .ref mbk, .int (nI (zna ac)), .ref mke, .ref mik, .int (nI cr), .ref mrw, .ref mrd, .long sd, .ref mtr, .ref mwo, .ref mnx, .int jr])), (mpg, .inl (cI, 36, .inl g)), (mbk, .inl (cI, 432, .inl (upd (va_cpy g (zbk bk ac) 0 (36 * zna ac) i) (36 * (zna ac) + i) (g i))))] H := hP
      have hD : va_D A [(M, .inr (9, [.int th, .ref mtx, .int (nI len), .int (nI pl), .int rt, .int fr, .int pr, .ref mod_, .int (nI n), .ref mne, .ref mro, .int (nI m), .int rrt, .int rfr, .int rpr, .ref mrod, .int (nI rn9), .ref mrne, .ref mrro, .int (nI rm9), .ref mrp, .ref mpg, .ref mbk, .int (nI (zna ac)), .ref mke, .ref mik, .int (nI cr), .ref mrw, .ref mrd, .long sd, .ref mtr, .ref mwo, .ref mnx, .int jr])), (mpg, .inl (cI, 36, .inl g)), (mbk, .inl (cI, 432, .inl (upd (va_cpy g (zbk bk ac) 0 (36 * zna ac) i) (36 * (zna ac) + i) (g i))))] := hD
      refine lv_iinc (v := nI (i + 1)) (lv' := [(1, .int (nI (i + 1))), (0, .ref M)]) hx hb dX9_note_77 hl (k := 0) rfl (z_inc _ 1) (by decide) rfl (fun ls hl => ?_)
      refine lv_goto (tgt := 51) hx hb dX9_note_80 (by decide) ?_
      have e_6 : upd (va_cpy g (zbk bk ac) 0 (36 * zna ac) i) (36 * (zna ac) + i) (g i) = va_cpy g (zbk bk ac) 0 (36 * zna ac) (i + 1) := by first | exact zcpyT_s0 _ _ _ _ | rfl
      have hP : va_P D vwCl [(M, .inr (9, [.int th, .ref mtx, .int (nI len), .int (nI pl), .int rt, .int fr, .int pr, .ref mod_, .int (nI n), .ref mne, .ref mro, .int (nI m), .int rrt, .int rfr, .int rpr, .ref mrod, .int (nI rn9), .ref mrne, .ref mrro, .int (nI rm9), .ref mrp, .ref mpg, .ref mbk, .int (nI (zna ac)), .ref mke, .ref mik, .int (nI cr), .ref mrw, .ref mrd, .long sd, .ref mtr, .ref mwo, .ref mnx, .int jr])), (mpg, .inl (cI, 36, .inl g)), (mbk, .inl (cI, 432, .inl (va_cpy g (zbk bk ac) 0 (36 * zna ac) (i + 1))))] H := Eq.subst (motive := fun zz_ => va_P D vwCl [(M, .inr (9, [.int th, .ref mtx, .int (nI len), .int (nI pl), .int rt, .int fr, .int pr, .ref mod_, .int (nI n), .ref mne, .ref mro, .int (nI m), .int rrt, .int rfr, .int rpr, .ref mrod, .int (nI rn9), .ref mrne, .ref mrro, .int (nI rm9), .ref mrp, .ref mpg, .ref mbk, .int (nI (zna ac)), .ref mke, .ref mik, .int (nI cr), .ref mrw, .ref mrd, .long sd, .ref mtr, .ref mwo, .ref mnx, .int jr])), (mpg, .inl (cI, 36, .inl g)), (mbk, .inl (cI, 432, .inl zz_))] H) e_6 hP
      have hD : va_D A [(M, .inr (9, [.int th, .ref mtx, .int (nI len), .int (nI pl), .int rt, .int fr, .int pr, .ref mod_, .int (nI n), .ref mne, .ref mro, .int (nI m), .int rrt, .int rfr, .int rpr, .ref mrod, .int (nI rn9), .ref mrne, .ref mrro, .int (nI rm9), .ref mrp, .ref mpg, .ref mbk, .int (nI (zna ac)), .ref mke, .ref mik, .int (nI cr), .ref mrw, .ref mrd, .long sd, .ref mtr, .ref mwo, .ref mnx, .int jr])), (mpg, .inl (cI, 36, .inl g)), (mbk, .inl (cI, 432, .inl (va_cpy g (zbk bk ac) 0 (36 * zna ac) (i + 1))))] := zD_of hD rfl
      have hl : lv_has ls 2 [(1, .int (nI (i + 1))), (0, .ref M)] := lv_sub hl [0, 1] rfl
      exact ih_2 _ _ _ (by omega) ⟨hP, hD, hS, hl⟩
  · skip
    refine lv_aload_n hx hb dX9_note_0 rfl (lv_at hl 0 rfl) ?_
    refine z_get (ci := 9) (v := .int (nI ac)) Z zin9 hP 0 rfl rfl 23 (by decide) zm700 rfl rfl dX9_note_1 ?_
    refine lv_bipush (v := nI 12) hx hb dX9_note_4 (by decide) ?_
    refine lv_icmp_ne (tgt := 49) hx hb dX9_note_6 (by decide) (fun c_7 => ?_) (fun c_7 => ?_)
    · have c_7 := zne (i := ac) (j := 12) c_7
      have e_8 : nI ac = nI (zna ac) := by first | (unfold zna; rw [if_pos (by assumption)]; exact congrArg nI (by omega)) | (unfold zna; rw [if_neg (by assumption)]) | (unfold zbk; rw [if_pos (by assumption)]) | (unfold zbk; rw [if_neg (by assumption)]) | (unfold zna; rw [if_pos (by assumption)]; exact congrArg nI (by omega)) | rfl
      have hP : va_P D vwCl [(M, .inr (9, [.int th, .ref mtx, .int (nI len), .int (nI pl), .int rt, .int fr, .int pr, .ref mod_, .int (nI n), .ref mne, .ref mro, .int (nI m), .int rrt, .int rfr, .int rpr, .ref mrod, .int (nI rn9), .ref mrne, .ref mrro, .int (nI rm9), .ref mrp, .ref mpg, .ref mbk, .int (nI (zna ac)), .ref mke, .ref mik, .int (nI cr), .ref mrw, .ref mrd, .long sd, .ref mtr, .ref mwo, .ref mnx, .int jr])), (mpg, .inl (cI, 36, .inl g)), (mbk, .inl (cI, 432, .inl bk))] H := Eq.subst (motive := fun zz_ => va_P D vwCl [(M, .inr (9, [.int th, .ref mtx, .int (nI len), .int (nI pl), .int rt, .int fr, .int pr, .ref mod_, .int (nI n), .ref mne, .ref mro, .int (nI m), .int rrt, .int rfr, .int rpr, .ref mrod, .int (nI rn9), .ref mrne, .ref mrro, .int (nI rm9), .ref mrp, .ref mpg, .ref mbk, .int zz_, .ref mke, .ref mik, .int (nI cr), .ref mrw, .ref mrd, .long sd, .ref mtr, .ref mwo, .ref mnx, .int jr])), (mpg, .inl (cI, 36, .inl g)), (mbk, .inl (cI, 432, .inl bk))] H) e_8 hP
      have e_9 : bk = zbk bk ac := by first | (unfold zna; rw [if_pos (by assumption)]; exact congrArg nI (by omega)) | (unfold zna; rw [if_neg (by assumption)]) | (unfold zbk; rw [if_pos (by assumption)]) | (unfold zbk; rw [if_neg (by assumption)]) | (unfold zna; rw [if_pos (by assumption)]; exact congrArg nI (by omega)) | rfl
      have hP : va_P D vwCl [(M, .inr (9, [.int th, .ref mtx, .int (nI len), .int (nI pl), .int rt, .int fr, .int pr, .ref mod_, .int (nI n), .ref mne, .ref mro, .int (nI m), .int rrt, .int rfr, .int rpr, .ref mrod, .int (nI rn9), .ref mrne, .ref mrro, .int (nI rm9), .ref mrp, .ref mpg, .ref mbk, .int (nI (zna ac)), .ref mke, .ref mik, .int (nI cr), .ref mrw, .ref mrd, .long sd, .ref mtr, .ref mwo, .ref mnx, .int jr])), (mpg, .inl (cI, 36, .inl g)), (mbk, .inl (cI, 432, .inl (zbk bk ac)))] H := Eq.subst (motive := fun zz_ => va_P D vwCl [(M, .inr (9, [.int th, .ref mtx, .int (nI len), .int (nI pl), .int rt, .int fr, .int pr, .ref mod_, .int (nI n), .ref mne, .ref mro, .int (nI m), .int rrt, .int rfr, .int rpr, .ref mrod, .int (nI rn9), .ref mrne, .ref mrro, .int (nI rm9), .ref mrp, .ref mpg, .ref mbk, .int (nI (zna ac)), .ref mke, .ref mik, .int (nI cr), .ref mrw, .ref mrd, .long sd, .ref mtr, .ref mwo, .ref mnx, .int jr])), (mpg, .inl (cI, 36, .inl g)), (mbk, .inl (cI, 432, .inl zz_))] H) e_9 hP
      have hD : va_D A [(M, .inr (9, [.int th, .ref mtx, .int (nI len), .int (nI pl), .int rt, .int fr, .int pr, .ref mod_, .int (nI n), .ref mne, .ref mro, .int (nI m), .int rrt, .int rfr, .int rpr, .ref mrod, .int (nI rn9), .ref mrne, .ref mrro, .int (nI rm9), .ref mrp, .ref mpg, .ref mbk, .int (nI (zna ac)), .ref mke, .ref mik, .int (nI cr), .ref mrw, .ref mrd, .long sd, .ref mtr, .ref mwo, .ref mnx, .int jr])), (mpg, .inl (cI, 36, .inl g)), (mbk, .inl (cI, 432, .inl (zbk bk ac)))] := zD_of hD rfl
      have hl : lv_has ls 2 [(0, .ref M)] := lv_sub hl [0] rfl
      exact k_1 _ _ _ ⟨hP, hD, hS, hl⟩
    · have c_7 := zeq (i := ac) (j := 12) (by omega) (by decide) c_7
      refine lv_iconst (v := nI 0) hx hb dX9_note_9 (by decide) ?_
      refine lv_istore_n (lv' := [(1, .int (nI 0)), (0, .ref M)]) hx hb dX9_note_10 rfl hl (by decide) rfl (fun ls hl => ?_)
      have e_11 : bk = zshf bk 0 := by first | rw [zshf_0] | rfl
      have hP : va_P D vwCl [(M, .inr (9, [.int th, .ref mtx, .int (nI len), .int (nI pl), .int rt, .int fr, .int pr, .ref mod_, .int (nI n), .ref mne, .ref mro, .int (nI m), .int rrt, .int rfr, .int rpr, .ref mrod, .int (nI rn9), .ref mrne, .ref mrro, .int (nI rm9), .ref mrp, .ref mpg, .ref mbk, .int (nI ac), .ref mke, .ref mik, .int (nI cr), .ref mrw, .ref mrd, .long sd, .ref mtr, .ref mwo, .ref mnx, .int jr])), (mpg, .inl (cI, 36, .inl g)), (mbk, .inl (cI, 432, .inl (zshf bk 0)))] H := Eq.subst (motive := fun zz_ => va_P D vwCl [(M, .inr (9, [.int th, .ref mtx, .int (nI len), .int (nI pl), .int rt, .int fr, .int pr, .ref mod_, .int (nI n), .ref mne, .ref mro, .int (nI m), .int rrt, .int rfr, .int rpr, .ref mrod, .int (nI rn9), .ref mrne, .ref mrro, .int (nI rm9), .ref mrp, .ref mpg, .ref mbk, .int (nI ac), .ref mke, .ref mik, .int (nI cr), .ref mrw, .ref mrd, .long sd, .ref mtr, .ref mwo, .ref mnx, .int jr])), (mpg, .inl (cI, 36, .inl g)), (mbk, .inl (cI, 432, .inl zz_))] H) e_11 hP
      have hD : va_D A [(M, .inr (9, [.int th, .ref mtx, .int (nI len), .int (nI pl), .int rt, .int fr, .int pr, .ref mod_, .int (nI n), .ref mne, .ref mro, .int (nI m), .int rrt, .int rfr, .int rpr, .ref mrod, .int (nI rn9), .ref mrne, .ref mrro, .int (nI rm9), .ref mrp, .ref mpg, .ref mbk, .int (nI ac), .ref mke, .ref mik, .int (nI cr), .ref mrw, .ref mrd, .long sd, .ref mtr, .ref mwo, .ref mnx, .int jr])), (mpg, .inl (cI, 36, .inl g)), (mbk, .inl (cI, 432, .inl (zshf bk 0)))] := zD_of hD rfl
      have hl : lv_has ls 2 [(1, .int (nI 0)), (0, .ref M)] := lv_sub hl [0, 1] rfl
      refine z_loop (fun i H locs ls => va_P D vwCl [(M, .inr (9, [.int th, .ref mtx, .int (nI len), .int (nI pl), .int rt, .int fr, .int pr, .ref mod_, .int (nI n), .ref mne, .ref mro, .int (nI m), .int rrt, .int rfr, .int rpr, .ref mrod, .int (nI rn9), .ref mrne, .ref mrro, .int (nI rm9), .ref mrp, .ref mpg, .ref mbk, .int (nI ac), .ref mke, .ref mik, .int (nI cr), .ref mrw, .ref mrd, .long sd, .ref mtr, .ref mwo, .ref mnx, .int jr])), (mpg, .inl (cI, 36, .inl g)), (mbk, .inl (cI, 432, .inl (zshf bk i)))] H ∧ va_D A [(M, .inr (9, [.int th, .ref mtx, .int (nI len), .int (nI pl), .int rt, .int fr, .int pr, .ref mod_, .int (nI n), .ref mne, .ref mro, .int (nI m), .int rrt, .int rfr, .int rpr, .ref mrod, .int (nI rn9), .ref mrne, .ref mrro, .int (nI rm9), .ref mrp, .ref mpg, .ref mbk, .int (nI ac), .ref mke, .ref mik, .int (nI cr), .ref mrw, .ref mrd, .long sd, .ref mtr, .ref mwo, .ref mnx, .int jr])), (mpg, .inl (cI, 36, .inl g)), (mbk, .inl (cI, 432, .inl (zshf bk i)))] ∧ va_S A sS.heap H locs ∧ lv_has ls 2 [(1, .int (nI i)), (0, .ref M)]) (396) (lo := 0) (by omega) ⟨hP, hD, hS, hl⟩ (fun i hi_i ih_10 H locs ls hI => ?_)
      obtain ⟨hP, hD, hS, hl⟩ := hI
      have hP : va_P D vwCl [(M, .inr (9, [.int th, .ref mtx, .int (nI len), .int (nI pl), .int rt, .int fr, .int pr, .ref mod_, .int (nI n), .ref mne, .ref mro, .int (nI m), .int rrt, .int rfr, .int rpr, .ref mrod, .int (nI rn9), .ref mrne, .ref mrro, .int (nI rm9), .ref mrp, .ref mpg, .ref mbk, .int (nI ac), .ref mke, .ref mik, .int (nI cr), .ref mrw, .ref mrd, .long sd, .ref mtr, .ref mwo, .ref mnx, .int jr])), (mpg, .inl (cI, 36, .inl g)), (mbk, .inl (cI, 432, .inl (zshf bk i)))] H := hP
      have hD : va_D A [(M, .inr (9, [.int th, .ref mtx, .int (nI len), .int (nI pl), .int rt, .int fr, .int pr, .ref mod_, .int (nI n), .ref mne, .ref mro, .int (nI m), .int rrt, .int rfr, .int rpr, .ref mrod, .int (nI rn9), .ref mrne, .ref mrro, .int (nI rm9), .ref mrp, .ref mpg, .ref mbk, .int (nI ac), .ref mke, .ref mik, .int (nI cr), .ref mrw, .ref mrd, .long sd, .ref mtr, .ref mwo, .ref mnx, .int jr])), (mpg, .inl (cI, 36, .inl g)), (mbk, .inl (cI, 432, .inl (zshf bk i)))] := hD
      have hl : lv_has ls 2 [(1, .int (nI i)), (0, .ref M)] := hl
      refine lv_iload_n hx hb dX9_note_11 rfl (lv_at hl 0 rfl) ?_
      refine lv_sipush (v := nI 396) hx hb dX9_note_12 (by decide) ?_
      refine lv_icmp_ge (tgt := 39) hx hb dX9_note_15 (by decide) (fun c_12 => ?_) (fun c_12 => ?_)
      · have c_12 := zle (i := 396) (j := i) (by decide) (by omega) c_12
        have hE_ : 396 = i := by omega
        subst hE_
        refine lv_aload_n hx hb dX9_note_39 rfl (lv_at hl 1 rfl) ?_
        refine lv_dup hx hb dX9_note_40 rfl ?_
        refine z_get (ci := 9) (v := .int (nI ac)) Z zin9 hP 0 rfl rfl 23 (by decide) zm700 rfl rfl dX9_note_41 ?_
        refine lv_iconst (v := nI 1) hx hb dX9_note_44 (by decide) ?_
        refine lv_isub hx hb dX9_note_45 ?_
        refine z_top (y := nI (ac - 1)) (z_sub' (by omega)) ?_
        refine z_put (ci := 9) (v := .int (nI (ac - 1))) Z zin9 tyX9 tyX9_ok nmX9 hP hD hS 0 rfl rfl 23 (by decide) zm700 rfl rfl rfl rfl (Nat.le_of_ble_eq_true rfl) dX9_note_46 (fun H locs hP hD hS => ?_)
        have hP : va_P D vwCl [(M, .inr (9, [.int th, .ref mtx, .int (nI len), .int (nI pl), .int rt, .int fr, .int pr, .ref mod_, .int (nI n), .ref mne, .ref mro, .int (nI m), .int rrt, .int rfr, .int rpr, .ref mrod, .int (nI rn9), .ref mrne, .ref mrro, .int (nI rm9), .ref mrp, .ref mpg, .ref mbk, .int (nI (ac - 1)), .ref mke, .ref mik, .int (nI cr), .ref mrw, .ref mrd, .long sd, .ref mtr, .ref mwo, .ref mnx, .int jr])), (mpg, .inl (cI, 36, .inl g)), (mbk, .inl (cI, 432, .inl (zshf bk 396)))] H := hP
        have hD : va_D A [(M, .inr (9, [.int th, .ref mtx, .int (nI len), .int (nI pl), .int rt, .int fr, .int pr, .ref mod_, .int (nI n), .ref mne, .ref mro, .int (nI m), .int rrt, .int rfr, .int rpr, .ref mrod, .int (nI rn9), .ref mrne, .ref mrro, .int (nI rm9), .ref mrp, .ref mpg, .ref mbk, .int (nI (ac - 1)), .ref mke, .ref mik, .int (nI cr), .ref mrw, .ref mrd, .long sd, .ref mtr, .ref mwo, .ref mnx, .int jr])), (mpg, .inl (cI, 36, .inl g)), (mbk, .inl (cI, 432, .inl (zshf bk 396)))] := hD
        have e_13 : nI (ac - 1) = nI (zna ac) := by first | (unfold zna; rw [if_pos (by assumption)]; exact congrArg nI (by omega)) | (unfold zna; rw [if_neg (by assumption)]) | (unfold zbk; rw [if_pos (by assumption)]) | (unfold zbk; rw [if_neg (by assumption)]) | (unfold zna; rw [if_pos (by assumption)]; exact congrArg nI (by omega)) | rfl
        have hP : va_P D vwCl [(M, .inr (9, [.int th, .ref mtx, .int (nI len), .int (nI pl), .int rt, .int fr, .int pr, .ref mod_, .int (nI n), .ref mne, .ref mro, .int (nI m), .int rrt, .int rfr, .int rpr, .ref mrod, .int (nI rn9), .ref mrne, .ref mrro, .int (nI rm9), .ref mrp, .ref mpg, .ref mbk, .int (nI (zna ac)), .ref mke, .ref mik, .int (nI cr), .ref mrw, .ref mrd, .long sd, .ref mtr, .ref mwo, .ref mnx, .int jr])), (mpg, .inl (cI, 36, .inl g)), (mbk, .inl (cI, 432, .inl (zshf bk 396)))] H := Eq.subst (motive := fun zz_ => va_P D vwCl [(M, .inr (9, [.int th, .ref mtx, .int (nI len), .int (nI pl), .int rt, .int fr, .int pr, .ref mod_, .int (nI n), .ref mne, .ref mro, .int (nI m), .int rrt, .int rfr, .int rpr, .ref mrod, .int (nI rn9), .ref mrne, .ref mrro, .int (nI rm9), .ref mrp, .ref mpg, .ref mbk, .int zz_, .ref mke, .ref mik, .int (nI cr), .ref mrw, .ref mrd, .long sd, .ref mtr, .ref mwo, .ref mnx, .int jr])), (mpg, .inl (cI, 36, .inl g)), (mbk, .inl (cI, 432, .inl (zshf bk 396)))] H) e_13 hP
        have e_14 : zshf bk 396 = zbk bk ac := by first | (unfold zna; rw [if_pos (by assumption)]; exact congrArg nI (by omega)) | (unfold zna; rw [if_neg (by assumption)]) | (unfold zbk; rw [if_pos (by assumption)]) | (unfold zbk; rw [if_neg (by assumption)]) | (unfold zna; rw [if_pos (by assumption)]; exact congrArg nI (by omega)) | rfl
        have hP : va_P D vwCl [(M, .inr (9, [.int th, .ref mtx, .int (nI len), .int (nI pl), .int rt, .int fr, .int pr, .ref mod_, .int (nI n), .ref mne, .ref mro, .int (nI m), .int rrt, .int rfr, .int rpr, .ref mrod, .int (nI rn9), .ref mrne, .ref mrro, .int (nI rm9), .ref mrp, .ref mpg, .ref mbk, .int (nI (zna ac)), .ref mke, .ref mik, .int (nI cr), .ref mrw, .ref mrd, .long sd, .ref mtr, .ref mwo, .ref mnx, .int jr])), (mpg, .inl (cI, 36, .inl g)), (mbk, .inl (cI, 432, .inl (zbk bk ac)))] H := Eq.subst (motive := fun zz_ => va_P D vwCl [(M, .inr (9, [.int th, .ref mtx, .int (nI len), .int (nI pl), .int rt, .int fr, .int pr, .ref mod_, .int (nI n), .ref mne, .ref mro, .int (nI m), .int rrt, .int rfr, .int rpr, .ref mrod, .int (nI rn9), .ref mrne, .ref mrro, .int (nI rm9), .ref mrp, .ref mpg, .ref mbk, .int (nI (zna ac)), .ref mke, .ref mik, .int (nI cr), .ref mrw, .ref mrd, .long sd, .ref mtr, .ref mwo, .ref mnx, .int jr])), (mpg, .inl (cI, 36, .inl g)), (mbk, .inl (cI, 432, .inl zz_))] H) e_14 hP
        have hD : va_D A [(M, .inr (9, [.int th, .ref mtx, .int (nI len), .int (nI pl), .int rt, .int fr, .int pr, .ref mod_, .int (nI n), .ref mne, .ref mro, .int (nI m), .int rrt, .int rfr, .int rpr, .ref mrod, .int (nI rn9), .ref mrne, .ref mrro, .int (nI rm9), .ref mrp, .ref mpg, .ref mbk, .int (nI (zna ac)), .ref mke, .ref mik, .int (nI cr), .ref mrw, .ref mrd, .long sd, .ref mtr, .ref mwo, .ref mnx, .int jr])), (mpg, .inl (cI, 36, .inl g)), (mbk, .inl (cI, 432, .inl (zbk bk ac)))] := zD_of hD rfl
        have hl : lv_has ls 2 [(0, .ref M)] := lv_sub hl [1] rfl
        exact k_1 _ _ _ ⟨hP, hD, hS, hl⟩
      · have c_12 := znle (i := 396) (j := i) (by decide) (by omega) c_12
        refine lv_aload_n hx hb dX9_note_18 rfl (lv_at hl 1 rfl) ?_
        refine z_get (ci := 9) (v := .ref mbk) Z zin9 hP 0 rfl rfl 22 (by decide) zm699 rfl rfl dX9_note_19 ?_
        refine lv_iload_n hx hb dX9_note_22 rfl (lv_at hl 0 rfl) ?_
        refine lv_aload_n hx hb dX9_note_23 rfl (lv_at hl 1 rfl) ?_
        refine z_get (ci := 9) (v := .ref mbk) Z zin9 hP 0 rfl rfl 22 (by decide) zm699 rfl rfl dX9_note_24 ?_
        refine lv_iload_n hx hb dX9_note_27 rfl (lv_at hl 0 rfl) ?_
        refine lv_bipush (v := nI 36) hx hb dX9_note_28 (by decide) ?_
        refine lv_iadd hx hb dX9_note_30 ?_
        refine z_top (y := nI (i + 36)) (z_add _ _) ?_
        refine z_iald (n := 432) (f := zshf bk i) (j := i + 36) Z hP 2 rfl (by omega) (by decide) dX9_note_31 ?_
        refine z_iast (n := 432) (f := zshf bk i) (j := i) (x := (zshf bk i) (i + 36)) Z hP hD hS 2 rfl (by omega) (by decide) dX9_note_32 (fun H locs hP hD hS => ?_)
        have hP : va_P D vwCl [(M, .inr (9, [.int th, .ref mtx, .int (nI len), .int (nI pl), .int rt, .int fr, .int pr, .ref mod_, .int (nI n), .ref mne, .ref mro, .int (nI m), .int rrt, .int rfr, .int rpr, .ref mrod, .int (nI rn9), .ref mrne, .ref mrro, .int (nI rm9), .ref mrp, .ref mpg, .ref mbk, .int (nI ac), .ref mke, .ref mik, .int (nI cr), .ref mrw, .ref mrd, .long sd, .ref mtr, .ref mwo, .ref mnx, .int jr])), (mpg, .inl (cI, 36, .inl g)), (mbk, .inl (cI, 432, .inl (upd (zshf bk i) i ((zshf bk i) (i + 36)))))] H := hP
        have hD : va_D A [(M, .inr (9, [.int th, .ref mtx, .int (nI len), .int (nI pl), .int rt, .int fr, .int pr, .ref mod_, .int (nI n), .ref mne, .ref mro, .int (nI m), .int rrt, .int rfr, .int rpr, .ref mrod, .int (nI rn9), .ref mrne, .ref mrro, .int (nI rm9), .ref mrp, .ref mpg, .ref mbk, .int (nI ac), .ref mke, .ref mik, .int (nI cr), .ref mrw, .ref mrd, .long sd, .ref mtr, .ref mwo, .ref mnx, .int jr])), (mpg, .inl (cI, 36, .inl g)), (mbk, .inl (cI, 432, .inl (upd (zshf bk i) i ((zshf bk i) (i + 36)))))] := hD
        refine lv_iinc (v := nI (i + 1)) (lv' := [(1, .int (nI (i + 1))), (0, .ref M)]) hx hb dX9_note_33 hl (k := 0) rfl (z_inc _ 1) (by decide) rfl (fun ls hl => ?_)
        refine lv_goto (tgt := 11) hx hb dX9_note_36 (by decide) ?_
        have e_15 : upd (zshf bk i) i ((zshf bk i) (i + 36)) = zshf bk (i + 1) := by first | exact zshf_s _ _ | rfl
        have hP : va_P D vwCl [(M, .inr (9, [.int th, .ref mtx, .int (nI len), .int (nI pl), .int rt, .int fr, .int pr, .ref mod_, .int (nI n), .ref mne, .ref mro, .int (nI m), .int rrt, .int rfr, .int rpr, .ref mrod, .int (nI rn9), .ref mrne, .ref mrro, .int (nI rm9), .ref mrp, .ref mpg, .ref mbk, .int (nI ac), .ref mke, .ref mik, .int (nI cr), .ref mrw, .ref mrd, .long sd, .ref mtr, .ref mwo, .ref mnx, .int jr])), (mpg, .inl (cI, 36, .inl g)), (mbk, .inl (cI, 432, .inl (zshf bk (i + 1))))] H := Eq.subst (motive := fun zz_ => va_P D vwCl [(M, .inr (9, [.int th, .ref mtx, .int (nI len), .int (nI pl), .int rt, .int fr, .int pr, .ref mod_, .int (nI n), .ref mne, .ref mro, .int (nI m), .int rrt, .int rfr, .int rpr, .ref mrod, .int (nI rn9), .ref mrne, .ref mrro, .int (nI rm9), .ref mrp, .ref mpg, .ref mbk, .int (nI ac), .ref mke, .ref mik, .int (nI cr), .ref mrw, .ref mrd, .long sd, .ref mtr, .ref mwo, .ref mnx, .int jr])), (mpg, .inl (cI, 36, .inl g)), (mbk, .inl (cI, 432, .inl zz_))] H) e_15 hP
        have hD : va_D A [(M, .inr (9, [.int th, .ref mtx, .int (nI len), .int (nI pl), .int rt, .int fr, .int pr, .ref mod_, .int (nI n), .ref mne, .ref mro, .int (nI m), .int rrt, .int rfr, .int rpr, .ref mrod, .int (nI rn9), .ref mrne, .ref mrro, .int (nI rm9), .ref mrp, .ref mpg, .ref mbk, .int (nI ac), .ref mke, .ref mik, .int (nI cr), .ref mrw, .ref mrd, .long sd, .ref mtr, .ref mwo, .ref mnx, .int jr])), (mpg, .inl (cI, 36, .inl g)), (mbk, .inl (cI, 432, .inl (zshf bk (i + 1))))] := zD_of hD rfl
        have hl : lv_has ls 2 [(1, .int (nI (i + 1))), (0, .ref M)] := lv_sub hl [0, 1] rfl
        exact ih_10 _ _ _ (by omega) ⟨hP, hD, hS, hl⟩
