theorem dX9_broke_0 : decode cX9_broke 0 = .ok (.aload_n 0, 1) := by decide +kernel
theorem dX9_broke_1 : decode cX9_broke 1 = .ok (.iconst 0, 1) := by decide +kernel
theorem dX9_broke_2 : decode cX9_broke 2 = .ok (.putfield 62, 3) := by decide +kernel
theorem dX9_broke_5 : decode cX9_broke 5 = .ok (.iload_n 1, 1) := by decide +kernel
theorem dX9_broke_6 : decode cX9_broke 6 = .ok (.invokestatic 164, 3) := by decide +kernel
theorem dX9_broke_9 : decode cX9_broke 9 = .ok (.ifCond .eq 6, 3) := by decide +kernel
theorem dX9_broke_12 : decode cX9_broke 12 = .ok (.bipush (-2), 2) := by decide +kernel
theorem dX9_broke_14 : decode cX9_broke 14 = .ok (.ireturn, 1) := by decide +kernel
theorem dX9_broke_15 : decode cX9_broke 15 = .ok (.aload_n 0, 1) := by decide +kernel
theorem dX9_broke_16 : decode cX9_broke 16 = .ok (.invokevirtual 201, 3) := by decide +kernel
theorem dX9_broke_19 : decode cX9_broke 19 = .ok (.iconst 0, 1) := by decide +kernel
theorem dX9_broke_20 : decode cX9_broke 20 = .ok (.istore_n 2, 1) := by decide +kernel
theorem dX9_broke_21 : decode cX9_broke 21 = .ok (.iload_n 2, 1) := by decide +kernel
theorem dX9_broke_22 : decode cX9_broke 22 = .ok (.bipush 30, 2) := by decide +kernel
theorem dX9_broke_24 : decode cX9_broke 24 = .ok (.if_icmp .gt 32, 3) := by decide +kernel
theorem dX9_broke_27 : decode cX9_broke 27 = .ok (.aload_n 0, 1) := by decide +kernel
theorem dX9_broke_28 : decode cX9_broke 28 = .ok (.aload_n 0, 1) := by decide +kernel
theorem dX9_broke_29 : decode cX9_broke 29 = .ok (.getfield 53, 3) := by decide +kernel
theorem dX9_broke_32 : decode cX9_broke 32 = .ok (.invokevirtual 140, 3) := by decide +kernel
theorem dX9_broke_35 : decode cX9_broke 35 = .ok (.ifCond .eq 5, 3) := by decide +kernel
theorem dX9_broke_38 : decode cX9_broke 38 = .ok (.iload_n 2, 1) := by decide +kernel
theorem dX9_broke_39 : decode cX9_broke 39 = .ok (.ireturn, 1) := by decide +kernel
theorem dX9_broke_40 : decode cX9_broke 40 = .ok (.aload_n 0, 1) := by decide +kernel
theorem dX9_broke_41 : decode cX9_broke 41 = .ok (.aload_n 0, 1) := by decide +kernel
theorem dX9_broke_42 : decode cX9_broke 42 = .ok (.getfield 53, 3) := by decide +kernel
theorem dX9_broke_45 : decode cX9_broke 45 = .ok (.iload_n 1, 1) := by decide +kernel
theorem dX9_broke_46 : decode cX9_broke 46 = .ok (.invokevirtual 170, 3) := by decide +kernel
theorem dX9_broke_49 : decode cX9_broke 49 = .ok (.pop, 1) := by decide +kernel
theorem dX9_broke_50 : decode cX9_broke 50 = .ok (.iinc 2 1, 3) := by decide +kernel
theorem dX9_broke_53 : decode cX9_broke 53 = .ok (.goto (-32), 3) := by decide +kernel
theorem dX9_broke_56 : decode cX9_broke 56 = .ok (.bipush (-9), 2) := by decide +kernel
theorem dX9_broke_58 : decode cX9_broke 58 = .ok (.ireturn, 1) := by decide +kernel
theorem zd_X9_broke : yX9_broke.cls ≠ "java/lang/invoke/MethodHandle" ∧ yX9_broke.cls ≠ "java/lang/invoke/VarHandle" ∧ (parseMethodDescriptor yX9_broke.desc).map (fun d => d.parameters.length) = some 1 := by decide +kernel
set_option maxHeartbeats 4000000 in
set_option maxRecDepth 100000 in
theorem zc_X9_broke (l : Launch) (D : va_G) (cI cZ : ClassId) (M : Nat) (th : Int32) (mtx : Nat) (len : Nat) (pl : Nat) (rt : Int32) (fr : Int32) (pr : Int32) (mod_ : Nat) (n : Nat) (mne : Nat) (mro : Nat) (m : Nat) (rrt : Int32) (rfr : Int32) (rpr : Int32) (mrod : Nat) (rn9 : Nat) (mrne : Nat) (mrro : Nat) (rm9 : Nat) (mrp : Nat) (mpg : Nat) (mbk : Nat) (ac : Nat) (mke : Nat) (mik : Nat) (cr : Nat) (mrw : Nat) (mrd : Nat) (sd : Int64) (mtr : Nat) (mwo : Nat) (mnx : Nat) (jr : Int32) (g : Nat → Int32) (f : Nat → Int32) (t : Nat → Int32) (x1 : Int32) (hn : n ≤ 5) (hpg : zpr n f g) (hpv : zpv n f) : zI l yX9_broke cX9_broke 3 .int 3 74 D cI cZ [.ref M, .int x1] [(M, .inr (9, [.int th, .ref mtx, .int (nI len), .int (nI pl), .int rt, .int fr, .int pr, .ref mod_, .int (nI n), .ref mne, .ref mro, .int (nI m), .int rrt, .int rfr, .int rpr, .ref mrod, .int (nI rn9), .ref mrne, .ref mrro, .int (nI rm9), .ref mrp, .ref mpg, .ref mbk, .int (nI ac), .ref mke, .ref mik, .int (nI cr), .ref mrw, .ref mrd, .long sd, .ref mtr, .ref mwo, .ref mnx, .int jr])), (mpg, .inl (cI, 36, .inl g)), (mtr, .inl (cI, 36, .inl t))] (fun (r : Int32) (u : (Nat → Int32)) => r = zKa x1 (fun k => zeu f rt fr n k 31 0) (-2)) (fun (u : (Nat → Int32)) => [(M, .inr (9, [.int (nI 0), .ref mtx, .int (nI len), .int (nI pl), .int rt, .int fr, .int pr, .ref mod_, .int (nI n), .ref mne, .ref mro, .int (nI m), .int rrt, .int rfr, .int rpr, .ref mrod, .int (nI rn9), .ref mrne, .ref mrro, .int (nI rm9), .ref mrp, .ref mpg, .ref mbk, .int (nI ac), .ref mke, .ref mik, .int (nI cr), .ref mrw, .ref mrd, .long sd, .ref mtr, .ref mwo, .ref mnx, .int jr])), (mpg, .inl (cI, 36, .inl g)), (mtr, .inl (cI, 36, .inl u))]) := by
  refine zI_of (by decide) (Nat.le_of_ble_eq_true rfl) ?_
  intro pP eE sS mM aA bB mT cC A ls Z hP hD hS hl
  have hx := Z.1
  have hb := Z.2.1
  have hown := Z.2.2.2.2.2.1
  have hts := Z.2.2.2.2.1
  have Z : zAt pP sS mM aA mT cC D cI cZ A "SurpriseTaxModel" cX9_broke 3 (some .int) := Z
  have hl : lv_has ls 3 [(0, .ref M), (1, .int x1)] := hl
  obtain ⟨H, hH⟩ : ∃ H, H = sS.heap := ⟨_, rfl⟩
  have hP : va_P D vwCl [(M, .inr (9, [.int th, .ref mtx, .int (nI len), .int (nI pl), .int rt, .int fr, .int pr, .ref mod_, .int (nI n), .ref mne, .ref mro, .int (nI m), .int rrt, .int rfr, .int rpr, .ref mrod, .int (nI rn9), .ref mrne, .ref mrro, .int (nI rm9), .ref mrp, .ref mpg, .ref mbk, .int (nI ac), .ref mke, .ref mik, .int (nI cr), .ref mrw, .ref mrd, .long sd, .ref mtr, .ref mwo, .ref mnx, .int jr])), (mpg, .inl (cI, 36, .inl g)), (mtr, .inl (cI, 36, .inl t))] H := by rw [hH]; exact hP
  have hS : va_S A sS.heap H [] := by rw [hH]; exact hS
  rw [← hH]
  clear hH
  obtain ⟨locs, hlo⟩ : ∃ q : List Loc, q = [] := ⟨_, rfl⟩
  rw [← hlo] at hS ⊢
  clear hlo
  refine lv_aload_n hx hb dX9_broke_0 rfl (lv_at hl 0 rfl) ?_
  refine lv_iconst (v := nI 0) hx hb dX9_broke_1 (by decide) ?_
  refine z_put (ci := 9) (v := .int (nI 0)) Z zin9 tyX9 tyX9_ok nmX9 hP hD hS 0 rfl rfl 0 (by decide) zm677 rfl rfl rfl rfl (Nat.le_of_ble_eq_true rfl) dX9_broke_2 (fun H locs hP hD hS => ?_)
  have hP : va_P D vwCl [(M, .inr (9, [.int (nI 0), .ref mtx, .int (nI len), .int (nI pl), .int rt, .int fr, .int pr, .ref mod_, .int (nI n), .ref mne, .ref mro, .int (nI m), .int rrt, .int rfr, .int rpr, .ref mrod, .int (nI rn9), .ref mrne, .ref mrro, .int (nI rm9), .ref mrp, .ref mpg, .ref mbk, .int (nI ac), .ref mke, .ref mik, .int (nI cr), .ref mrw, .ref mrd, .long sd, .ref mtr, .ref mwo, .ref mnx, .int jr])), (mpg, .inl (cI, 36, .inl g)), (mtr, .inl (cI, 36, .inl t))] H := hP
  have hD : va_D A [(M, .inr (9, [.int (nI 0), .ref mtx, .int (nI len), .int (nI pl), .int rt, .int fr, .int pr, .ref mod_, .int (nI n), .ref mne, .ref mro, .int (nI m), .int rrt, .int rfr, .int rpr, .ref mrod, .int (nI rn9), .ref mrne, .ref mrro, .int (nI rm9), .ref mrp, .ref mpg, .ref mbk, .int (nI ac), .ref mke, .ref mik, .int (nI cr), .ref mrw, .ref mrd, .long sd, .ref mtr, .ref mwo, .ref mnx, .int jr])), (mpg, .inl (cI, 36, .inl g)), (mtr, .inl (cI, 36, .inl t))] := hD
  refine lv_iload_n hx hb dX9_broke_5 rfl (lv_at hl 1 rfl) ?_
  refine z_callSi (As := [.int x1]) (rest := []) Z hP hD hS hl.1 (zc_X9_noKind l D cI cZ x1 ) zm806 zm807 zm39 zm808 zd_X9_noKind ⟨Nat.le_of_ble_eq_true rfl, Nat.le_of_ble_eq_true rfl⟩ ⟨Nat.zero_le _, Nat.zero_le _⟩ [] rfl (by decide) (fun _ => rfl) rfl (Nat.le_of_ble_eq_true rfl) rfl dX9_broke_6 (fun r_1 u H locs h_2 hP hD hS => ?_)
  have hP : va_P D vwCl [(M, .inr (9, [.int (nI 0), .ref mtx, .int (nI len), .int (nI pl), .int rt, .int fr, .int pr, .ref mod_, .int (nI n), .ref mne, .ref mro, .int (nI m), .int rrt, .int rfr, .int rpr, .ref mrod, .int (nI rn9), .ref mrne, .ref mrro, .int (nI rm9), .ref mrp, .ref mpg, .ref mbk, .int (nI ac), .ref mke, .ref mik, .int (nI cr), .ref mrw, .ref mrd, .long sd, .ref mtr, .ref mwo, .ref mnx, .int jr])), (mpg, .inl (cI, 36, .inl g)), (mtr, .inl (cI, 36, .inl t))] H := hP
  have hD : va_D A [(M, .inr (9, [.int (nI 0), .ref mtx, .int (nI len), .int (nI pl), .int rt, .int fr, .int pr, .ref mod_, .int (nI n), .ref mne, .ref mro, .int (nI m), .int rrt, .int rfr, .int rpr, .ref mrod, .int (nI rn9), .ref mrne, .ref mrro, .int (nI rm9), .ref mrp, .ref mpg, .ref mbk, .int (nI ac), .ref mke, .ref mik, .int (nI cr), .ref mrw, .ref mrd, .long sd, .ref mtr, .ref mwo, .ref mnx, .int jr])), (mpg, .inl (cI, 36, .inl g)), (mtr, .inl (cI, 36, .inl t))] := hD
  have h_2 : r_1 = if ¬ zkind x1 then 1 else 0 := h_2
  subst h_2
  refine lv_if_eq (tgt := 15) hx hb dX9_broke_9 (by decide) (fun c_3 => ?_) (fun c_3 => ?_)
  · have c_3 := zb0 c_3
    have hzk := Classical.not_not.mp c_3
    obtain ⟨k, hk, rfl⟩ := zkind_of hzk
    refine lv_aload_n hx hb dX9_broke_15 rfl (lv_at hl 0 rfl) ?_
    refine z_callVv (As := []) (rest := []) (ci := 9) (k0 := 0) Z hP hD hS hl.1 (zc_X9_begin l D cI cZ M (nI 0) mtx len pl rt fr pr mod_ n mne mro m rrt rfr rpr mrod rn9 mrne mrro rm9 mrp mpg mbk ac mke mik cr mrw mrd sd mtr mwo mnx jr g t ) zm884 zm885 zm28 zm39 zm886 ⟨rfl, zd_X9_begin⟩ ⟨Nat.le_of_ble_eq_true rfl, Nat.le_of_ble_eq_true rfl⟩ ⟨Nat.zero_le _, Nat.zero_le _⟩ [0, 1, 2] rfl (by decide) rfl rfl rfl (fun _ => rfl) rfl (Nat.le_of_ble_eq_true rfl) rfl dX9_broke_16 (fun u H locs h_5 hP hD hS => ?_)
    have hP : va_P D vwCl [(M, .inr (9, [.int (nI 0), .ref mtx, .int (nI len), .int (nI pl), .int rt, .int fr, .int pr, .ref mod_, .int (nI n), .ref mne, .ref mro, .int (nI m), .int rrt, .int rfr, .int rpr, .ref mrod, .int (nI rn9), .ref mrne, .ref mrro, .int (nI rm9), .ref mrp, .ref mpg, .ref mbk, .int (nI ac), .ref mke, .ref mik, .int (nI cr), .ref mrw, .ref mrd, .long sd, .ref mtr, .ref mwo, .ref mnx, .int jr])), (mpg, .inl (cI, 36, .inl g)), (mtr, .inl (cI, 36, .inl g))] H := hP
    have hD : va_D A [(M, .inr (9, [.int (nI 0), .ref mtx, .int (nI len), .int (nI pl), .int rt, .int fr, .int pr, .ref mod_, .int (nI n), .ref mne, .ref mro, .int (nI m), .int rrt, .int rfr, .int rpr, .ref mrod, .int (nI rn9), .ref mrne, .ref mrro, .int (nI rm9), .ref mrp, .ref mpg, .ref mbk, .int (nI ac), .ref mke, .ref mik, .int (nI cr), .ref mrw, .ref mrd, .long sd, .ref mtr, .ref mwo, .ref mnx, .int jr])), (mpg, .inl (cI, 36, .inl g)), (mtr, .inl (cI, 36, .inl g))] := hD
    refine lv_iconst (v := nI 0) hx hb dX9_broke_19 (by decide) ?_
    refine lv_istore_n (lv' := [(2, .int (nI 0)), (0, .ref M), (1, .int (nI k))]) hx hb dX9_broke_20 rfl hl (by decide) rfl (fun ls hl => ?_)
    have hl : lv_has ls 3 [(2, .int (nI 0)), (0, .ref M), (1, .int (nI k))] := lv_sub hl [0, 1, 2] rfl
    refine z_loopm (fun (x_ : Nat × (Nat → Int32)) H locs ls => va_P D vwCl [(M, .inr (9, [.int (nI 0), .ref mtx, .int (nI len), .int (nI pl), .int rt, .int fr, .int pr, .ref mod_, .int (nI n), .ref mne, .ref mro, .int (nI m), .int rrt, .int rfr, .int rpr, .ref mrod, .int (nI rn9), .ref mrne, .ref mrro, .int (nI rm9), .ref mrp, .ref mpg, .ref mbk, .int (nI ac), .ref mke, .ref mik, .int (nI cr), .ref mrw, .ref mrd, .long sd, .ref mtr, .ref mwo, .ref mnx, .int jr])), (mpg, .inl (cI, 36, .inl g)), (mtr, .inl (cI, 36, .inl x_.2))] H ∧ va_D A [(M, .inr (9, [.int (nI 0), .ref mtx, .int (nI len), .int (nI pl), .int rt, .int fr, .int pr, .ref mod_, .int (nI n), .ref mne, .ref mro, .int (nI m), .int rrt, .int rfr, .int rpr, .ref mrod, .int (nI rn9), .ref mrne, .ref mrro, .int (nI rm9), .ref mrp, .ref mpg, .ref mbk, .int (nI ac), .ref mke, .ref mik, .int (nI cr), .ref mrw, .ref mrd, .long sd, .ref mtr, .ref mwo, .ref mnx, .int jr])), (mpg, .inl (cI, 36, .inl g)), (mtr, .inl (cI, 36, .inl x_.2))] ∧ va_S A sS.heap H locs ∧ lv_has ls 3 [(2, .int (nI x_.1)), (0, .ref M), (1, .int (nI k))] ∧ (x_.1 ≤ 31) ∧ (zpr n (zit f rt fr n k x_.1) x_.2) ∧ (zeu f rt fr n k (31 - x_.1) x_.1 = zeu f rt fr n k 31 0)) (fun x_ => 31 - x_.1) (0, g) ⟨hP, hD, hS, hl, (by first | exact hpg | rfl | omega), (by first | exact hpg | rfl | omega), (by first | exact hpg | rfl | omega)⟩ (fun x_ ih_6 H locs ls hI => ?_)
    obtain ⟨i, g9⟩ := x_
    obtain ⟨hP, hD, hS, hl, hv21_0, hv21_1, hv21_2⟩ := hI
    dsimp only at ih_6 hv21_0 hv21_1 hv21_2
    have hv21_0 : i ≤ 31 := hv21_0
    have hv21_1 : zpr n (zit f rt fr n k i) g9 := hv21_1
    have hv21_2 : zeu f rt fr n k (31 - i) i = zeu f rt fr n k 31 0 := hv21_2
    have hP : va_P D vwCl [(M, .inr (9, [.int (nI 0), .ref mtx, .int (nI len), .int (nI pl), .int rt, .int fr, .int pr, .ref mod_, .int (nI n), .ref mne, .ref mro, .int (nI m), .int rrt, .int rfr, .int rpr, .ref mrod, .int (nI rn9), .ref mrne, .ref mrro, .int (nI rm9), .ref mrp, .ref mpg, .ref mbk, .int (nI ac), .ref mke, .ref mik, .int (nI cr), .ref mrw, .ref mrd, .long sd, .ref mtr, .ref mwo, .ref mnx, .int jr])), (mpg, .inl (cI, 36, .inl g)), (mtr, .inl (cI, 36, .inl g9))] H := hP
    have hD : va_D A [(M, .inr (9, [.int (nI 0), .ref mtx, .int (nI len), .int (nI pl), .int rt, .int fr, .int pr, .ref mod_, .int (nI n), .ref mne, .ref mro, .int (nI m), .int rrt, .int rfr, .int rpr, .ref mrod, .int (nI rn9), .ref mrne, .ref mrro, .int (nI rm9), .ref mrp, .ref mpg, .ref mbk, .int (nI ac), .ref mke, .ref mik, .int (nI cr), .ref mrw, .ref mrd, .long sd, .ref mtr, .ref mwo, .ref mnx, .int jr])), (mpg, .inl (cI, 36, .inl g)), (mtr, .inl (cI, 36, .inl g9))] := hD
    have hl : lv_has ls 3 [(2, .int (nI i)), (0, .ref M), (1, .int (nI k))] := hl
    refine lv_iload_n hx hb dX9_broke_21 rfl (lv_at hl 0 rfl) ?_
    refine lv_bipush (v := nI 30) hx hb dX9_broke_22 (by decide) ?_
    refine lv_icmp_gt (tgt := 56) hx hb dX9_broke_24 (by decide) (fun c_7 => ?_) (fun c_7 => ?_)
    · have c_7 := zlt (i := 30) (j := i) (by decide) (by omega) c_7
      refine lv_bipush (v := -9) hx hb dX9_broke_56 (by decide) ?_
      exact z_iret Z (g9) (by rw [zKa_y hk, ← hv21_2, show 31 - i = 0 by omega]; rfl) hP hS dX9_broke_58
    · have c_7 := znlt (i := 30) (j := i) (by decide) (by omega) c_7
      refine lv_aload_n hx hb dX9_broke_27 rfl (lv_at hl 1 rfl) ?_
      refine lv_aload_n hx hb dX9_broke_28 rfl (lv_at hl 1 rfl) ?_
      refine z_get (ci := 9) (v := .ref mtr) Z zin9 hP 0 rfl rfl 30 (by decide) zm707 rfl rfl dX9_broke_29 ?_
      refine z_callVi (As := [.ref mtr]) (rest := []) (ci := 9) (k0 := 0) Z hP hD hS hl.1 (zc_X9_debtOf l D cI cZ M (nI 0) mtx len pl rt fr pr mod_ n mne mro m rrt rfr rpr mrod rn9 mrne mrro rm9 mrp mpg mbk ac mke mik cr mrw mrd sd mtr mwo mnx jr mtr g9 (zit f rt fr n k i) (by omega) (by intro p hp; exact (hv21_1.1 p hp).2.1)) zm790 zm791 zm18 zm39 zm792 ⟨rfl, zd_X9_debtOf⟩ ⟨Nat.le_of_ble_eq_true rfl, Nat.le_of_ble_eq_true rfl⟩ ⟨Nat.zero_le _, Nat.zero_le _⟩ [0, 2] rfl (by decide) rfl rfl rfl (fun _ => rfl) rfl (Nat.le_of_ble_eq_true rfl) rfl dX9_broke_32 (fun r_8 u H locs h_9 hP hD hS => ?_)
      have hP : va_P D vwCl [(M, .inr (9, [.int (nI 0), .ref mtx, .int (nI len), .int (nI pl), .int rt, .int fr, .int pr, .ref mod_, .int (nI n), .ref mne, .ref mro, .int (nI m), .int rrt, .int rfr, .int rpr, .ref mrod, .int (nI rn9), .ref mrne, .ref mrro, .int (nI rm9), .ref mrp, .ref mpg, .ref mbk, .int (nI ac), .ref mke, .ref mik, .int (nI cr), .ref mrw, .ref mrd, .long sd, .ref mtr, .ref mwo, .ref mnx, .int jr])), (mpg, .inl (cI, 36, .inl g)), (mtr, .inl (cI, 36, .inl g9))] H := hP
      have hD : va_D A [(M, .inr (9, [.int (nI 0), .ref mtx, .int (nI len), .int (nI pl), .int rt, .int fr, .int pr, .ref mod_, .int (nI n), .ref mne, .ref mro, .int (nI m), .int rrt, .int rfr, .int rpr, .ref mrod, .int (nI rn9), .ref mrne, .ref mrro, .int (nI rm9), .ref mrp, .ref mpg, .ref mbk, .int (nI ac), .ref mke, .ref mik, .int (nI cr), .ref mrw, .ref mrd, .long sd, .ref mtr, .ref mwo, .ref mnx, .int jr])), (mpg, .inl (cI, 36, .inl g)), (mtr, .inl (cI, 36, .inl g9))] := hD
      have h_9 : r_8 = zdb (zit f rt fr n k i) n := h_9
      subst h_9
      refine lv_if_eq (tgt := 40) hx hb dX9_broke_35 (by decide) (fun c_10 => ?_) (fun c_10 => ?_)
      · have c_10 : (zdb (zit f rt fr n k i) n) = 0 := c_10
        refine lv_aload_n hx hb dX9_broke_40 rfl (lv_at hl 1 rfl) ?_
        refine lv_aload_n hx hb dX9_broke_41 rfl (lv_at hl 1 rfl) ?_
        refine z_get (ci := 9) (v := .ref mtr) Z zin9 hP 0 rfl rfl 30 (by decide) zm707 rfl rfl dX9_broke_42 ?_
        refine lv_iload_n hx hb dX9_broke_45 rfl (lv_at hl 2 rfl) ?_
        refine z_callVi (As := [.ref mtr, .int (nI k)]) (rest := []) (ci := 9) (k0 := 0) Z hP hD hS hl.1 (zc_X9_goEvent l D cI cZ M (nI 0) mtx len pl rt fr pr mod_ n mne mro m rrt rfr rpr mrod rn9 mrne mrro rm9 mrp mpg mbk ac mke mik cr mrw mrd sd mtr mwo mnx jr mtr g9 (zit f rt fr n k i) k (by first | omega | exact hv21_1 | exact zit_v hpv hn hk i) (by first | omega | exact hv21_1 | exact zit_v hpv hn hk i) (by first | omega | exact hv21_1 | exact zit_v hpv hn hk i) (by first | omega | exact hv21_1 | exact zit_v hpv hn hk i)) zm820 zm821 zm21 zm39 zm822 ⟨rfl, zd_X9_goEvent⟩ ⟨Nat.le_of_ble_eq_true rfl, Nat.le_of_ble_eq_true rfl⟩ ⟨Nat.zero_le _, Nat.zero_le _⟩ [0, 2] rfl (by decide) rfl rfl rfl (fun _ => rfl) rfl (Nat.le_of_ble_eq_true rfl) rfl dX9_broke_46 (fun r_11 u H locs h_12 hP hD hS => ?_)
        obtain ⟨g2_13, rfl⟩ : ∃ z, z = u := ⟨_, rfl⟩
        have hP : va_P D vwCl [(M, .inr (9, [.int (nI 0), .ref mtx, .int (nI len), .int (nI pl), .int rt, .int fr, .int pr, .ref mod_, .int (nI n), .ref mne, .ref mro, .int (nI m), .int rrt, .int rfr, .int rpr, .ref mrod, .int (nI rn9), .ref mrne, .ref mrro, .int (nI rm9), .ref mrp, .ref mpg, .ref mbk, .int (nI ac), .ref mke, .ref mik, .int (nI cr), .ref mrw, .ref mrd, .long sd, .ref mtr, .ref mwo, .ref mnx, .int jr])), (mpg, .inl (cI, 36, .inl g)), (mtr, .inl (cI, 36, .inl g2_13))] H := hP
        have hD : va_D A [(M, .inr (9, [.int (nI 0), .ref mtx, .int (nI len), .int (nI pl), .int rt, .int fr, .int pr, .ref mod_, .int (nI n), .ref mne, .ref mro, .int (nI m), .int rrt, .int rfr, .int rpr, .ref mrod, .int (nI rn9), .ref mrne, .ref mrro, .int (nI rm9), .ref mrp, .ref mpg, .ref mbk, .int (nI ac), .ref mke, .ref mik, .int (nI cr), .ref mrw, .ref mrd, .long sd, .ref mtr, .ref mwo, .ref mnx, .int jr])), (mpg, .inl (cI, 36, .inl g)), (mtr, .inl (cI, 36, .inl g2_13))] := hD
        obtain ⟨h_12_0, h_12_1⟩ := h_12
        have h_12_0 : r_11 = zcs (zit f rt fr n k i) rt fr k n := h_12_0
        subst h_12_0
        have h_12_1 : zpr n (zcome (zit f rt fr n k i) rt fr n k) g2_13 := h_12_1
        refine lv_pop hx hb dX9_broke_49 rfl ?_
        refine lv_iinc (v := nI (i + 1)) (lv' := [(2, .int (nI (i + 1))), (0, .ref M), (1, .int (nI k))]) hx hb dX9_broke_50 hl (k := 0) rfl (z_inc _ 1) (by decide) rfl (fun ls hl => ?_)
        refine lv_goto (tgt := 21) hx hb dX9_broke_53 (by decide) ?_
        have hl : lv_has ls 3 [(2, .int (nI (i + 1))), (0, .ref M), (1, .int (nI k))] := lv_sub hl [0, 1, 2] rfl
        exact ih_6 (i + 1, g2_13) _ _ _ (by omega) ⟨hP, hD, hS, hl, (by first | assumption | omega | (rw [← hv21_2, show 31 - i = (31 - (i + 1)) + 1 by omega, zeu_s, if_pos (by assumption)])), (by first | assumption | omega | (rw [← hv21_2, show 31 - i = (31 - (i + 1)) + 1 by omega, zeu_s, if_pos (by assumption)])), (by first | assumption | omega | (rw [← hv21_2, show 31 - i = (31 - (i + 1)) + 1 by omega, zeu_s, if_pos (by assumption)]))⟩
      · have c_10 : ¬ ((zdb (zit f rt fr n k i) n) = 0) := c_10
        refine lv_iload_n hx hb dX9_broke_38 rfl (lv_at hl 0 rfl) ?_
        exact z_iret Z (g9) (by rw [zKa_y hk, ← hv21_2, show 31 - i = (31 - (i + 1)) + 1 by omega, zeu_s, if_neg (by assumption)]) hP hS dX9_broke_39
  · have c_3 := zb1 c_3
    refine lv_bipush (v := -2) hx hb dX9_broke_12 (by decide) ?_
    exact z_iret Z (t) (by first | rw [zKa_n (by assumption)] | rw [zKa_y hk] | rfl) hP hS dX9_broke_14

theorem dX9_reform_0 : decode cX9_reform 0 = .ok (.aload_n 0, 1) := by decide +kernel
theorem dX9_reform_1 : decode cX9_reform 1 = .ok (.iconst 0, 1) := by decide +kernel
theorem dX9_reform_2 : decode cX9_reform 2 = .ok (.putfield 62, 3) := by decide +kernel
theorem dX9_reform_5 : decode cX9_reform 5 = .ok (.iload_n 1, 1) := by decide +kernel
theorem dX9_reform_6 : decode cX9_reform 6 = .ok (.invokestatic 164, 3) := by decide +kernel
theorem dX9_reform_9 : decode cX9_reform 9 = .ok (.ifCond .eq 6, 3) := by decide +kernel
theorem dX9_reform_12 : decode cX9_reform 12 = .ok (.bipush (-2), 2) := by decide +kernel
theorem dX9_reform_14 : decode cX9_reform 14 = .ok (.ireturn, 1) := by decide +kernel
theorem dX9_reform_15 : decode cX9_reform 15 = .ok (.bipush (-9), 2) := by decide +kernel
theorem dX9_reform_17 : decode cX9_reform 17 = .ok (.istore_n 2, 1) := by decide +kernel
theorem dX9_reform_18 : decode cX9_reform 18 = .ok (.bipush 99, 2) := by decide +kernel
theorem dX9_reform_20 : decode cX9_reform 20 = .ok (.istore_n 3, 1) := by decide +kernel
theorem dX9_reform_21 : decode cX9_reform 21 = .ok (.iconst 0, 1) := by decide +kernel
theorem dX9_reform_22 : decode cX9_reform 22 = .ok (.istore 4, 2) := by decide +kernel
theorem dX9_reform_24 : decode cX9_reform 24 = .ok (.iload 4, 2) := by decide +kernel
theorem dX9_reform_26 : decode cX9_reform 26 = .ok (.bipush 100, 2) := by decide +kernel
theorem dX9_reform_28 : decode cX9_reform 28 = .ok (.if_icmp .ge 148, 3) := by decide +kernel
theorem dX9_reform_31 : decode cX9_reform 31 = .ok (.iconst 1, 1) := by decide +kernel
theorem dX9_reform_32 : decode cX9_reform 32 = .ok (.istore 5, 2) := by decide +kernel
theorem dX9_reform_34 : decode cX9_reform 34 = .ok (.iconst 0, 1) := by decide +kernel
theorem dX9_reform_35 : decode cX9_reform 35 = .ok (.istore 6, 2) := by decide +kernel
theorem dX9_reform_37 : decode cX9_reform 37 = .ok (.iload 6, 2) := by decide +kernel
theorem dX9_reform_39 : decode cX9_reform 39 = .ok (.aload_n 0, 1) := by decide +kernel
theorem dX9_reform_40 : decode cX9_reform 40 = .ok (.getfield 66, 3) := by decide +kernel
theorem dX9_reform_43 : decode cX9_reform 43 = .ok (.if_icmp .ge 83, 3) := by decide +kernel
theorem dX9_reform_46 : decode cX9_reform 46 = .ok (.bipush 7, 2) := by decide +kernel
theorem dX9_reform_48 : decode cX9_reform 48 = .ok (.iload 6, 2) := by decide +kernel
theorem dX9_reform_50 : decode cX9_reform 50 = .ok (.imul, 1) := by decide +kernel
theorem dX9_reform_51 : decode cX9_reform 51 = .ok (.istore 7, 2) := by decide +kernel
theorem dX9_reform_53 : decode cX9_reform 53 = .ok (.iload 5, 2) := by decide +kernel
theorem dX9_reform_55 : decode cX9_reform 55 = .ok (.ifCond .eq 62, 3) := by decide +kernel
theorem dX9_reform_58 : decode cX9_reform 58 = .ok (.aload_n 0, 1) := by decide +kernel
theorem dX9_reform_59 : decode cX9_reform 59 = .ok (.getfield 34, 3) := by decide +kernel
theorem dX9_reform_62 : decode cX9_reform 62 = .ok (.iload 7, 2) := by decide +kernel
theorem dX9_reform_64 : decode cX9_reform 64 = .ok (.iconst 4, 1) := by decide +kernel
theorem dX9_reform_65 : decode cX9_reform 65 = .ok (.iadd, 1) := by decide +kernel
theorem dX9_reform_66 : decode cX9_reform 66 = .ok (.iaload, 1) := by decide +kernel
theorem dX9_reform_67 : decode cX9_reform 67 = .ok (.iload 4, 2) := by decide +kernel
theorem dX9_reform_69 : decode cX9_reform 69 = .ok (.bipush 10, 2) := by decide +kernel
theorem dX9_reform_71 : decode cX9_reform 71 = .ok (.idiv, 1) := by decide +kernel
theorem dX9_reform_72 : decode cX9_reform 72 = .ok (.aload_n 0, 1) := by decide +kernel
theorem dX9_reform_73 : decode cX9_reform 73 = .ok (.getfield 34, 3) := by decide +kernel
theorem dX9_reform_76 : decode cX9_reform 76 = .ok (.iload 7, 2) := by decide +kernel
theorem dX9_reform_78 : decode cX9_reform 78 = .ok (.iload_n 1, 1) := by decide +kernel
theorem dX9_reform_79 : decode cX9_reform 79 = .ok (.iadd, 1) := by decide +kernel
theorem dX9_reform_80 : decode cX9_reform 80 = .ok (.iaload, 1) := by decide +kernel
theorem dX9_reform_81 : decode cX9_reform 81 = .ok (.iload_n 1, 1) := by decide +kernel
theorem dX9_reform_82 : decode cX9_reform 82 = .ok (.aload_n 0, 1) := by decide +kernel
theorem dX9_reform_83 : decode cX9_reform 83 = .ok (.getfield 34, 3) := by decide +kernel
theorem dX9_reform_86 : decode cX9_reform 86 = .ok (.iload 7, 2) := by decide +kernel
theorem dX9_reform_88 : decode cX9_reform 88 = .ok (.iconst 5, 1) := by decide +kernel
theorem dX9_reform_89 : decode cX9_reform 89 = .ok (.iadd, 1) := by decide +kernel
theorem dX9_reform_90 : decode cX9_reform 90 = .ok (.iaload, 1) := by decide +kernel
theorem dX9_reform_91 : decode cX9_reform 91 = .ok (.aload_n 0, 1) := by decide +kernel
theorem dX9_reform_92 : decode cX9_reform 92 = .ok (.getfield 34, 3) := by decide +kernel
theorem dX9_reform_95 : decode cX9_reform 95 = .ok (.iload 7, 2) := by decide +kernel
theorem dX9_reform_97 : decode cX9_reform 97 = .ok (.bipush 6, 2) := by decide +kernel
theorem dX9_reform_99 : decode cX9_reform 99 = .ok (.iadd, 1) := by decide +kernel
theorem dX9_reform_100 : decode cX9_reform 100 = .ok (.iaload, 1) := by decide +kernel
theorem dX9_reform_101 : decode cX9_reform 101 = .ok (.iload 4, 2) := by decide +kernel
theorem dX9_reform_103 : decode cX9_reform 103 = .ok (.bipush 10, 2) := by decide +kernel
theorem dX9_reform_105 : decode cX9_reform 105 = .ok (.irem, 1) := by decide +kernel
theorem dX9_reform_106 : decode cX9_reform 106 = .ok (.invokestatic 152, 3) := by decide +kernel
theorem dX9_reform_109 : decode cX9_reform 109 = .ok (.imul, 1) := by decide +kernel
theorem dX9_reform_110 : decode cX9_reform 110 = .ok (.if_icmp .lt 7, 3) := by decide +kernel
theorem dX9_reform_113 : decode cX9_reform 113 = .ok (.iconst 1, 1) := by decide +kernel
theorem dX9_reform_114 : decode cX9_reform 114 = .ok (.goto 4, 3) := by decide +kernel
theorem dX9_reform_117 : decode cX9_reform 117 = .ok (.iconst 0, 1) := by decide +kernel
theorem dX9_reform_118 : decode cX9_reform 118 = .ok (.istore 5, 2) := by decide +kernel
theorem dX9_reform_120 : decode cX9_reform 120 = .ok (.iinc 6 1, 3) := by decide +kernel
theorem dX9_reform_123 : decode cX9_reform 123 = .ok (.goto (-86), 3) := by decide +kernel
theorem dX9_reform_126 : decode cX9_reform 126 = .ok (.iload 4, 2) := by decide +kernel
theorem dX9_reform_128 : decode cX9_reform 128 = .ok (.bipush 10, 2) := by decide +kernel
theorem dX9_reform_130 : decode cX9_reform 130 = .ok (.idiv, 1) := by decide +kernel
theorem dX9_reform_131 : decode cX9_reform 131 = .ok (.aload_n 0, 1) := by decide +kernel
theorem dX9_reform_132 : decode cX9_reform 132 = .ok (.getfield 125, 3) := by decide +kernel
theorem dX9_reform_135 : decode cX9_reform 135 = .ok (.invokestatic 212, 3) := by decide +kernel
theorem dX9_reform_138 : decode cX9_reform 138 = .ok (.iload 4, 2) := by decide +kernel
theorem dX9_reform_140 : decode cX9_reform 140 = .ok (.bipush 10, 2) := by decide +kernel
theorem dX9_reform_142 : decode cX9_reform 142 = .ok (.irem, 1) := by decide +kernel
theorem dX9_reform_143 : decode cX9_reform 143 = .ok (.aload_n 0, 1) := by decide +kernel
theorem dX9_reform_144 : decode cX9_reform 144 = .ok (.getfield 128, 3) := by decide +kernel
theorem dX9_reform_147 : decode cX9_reform 147 = .ok (.invokestatic 212, 3) := by decide +kernel
theorem dX9_reform_150 : decode cX9_reform 150 = .ok (.iadd, 1) := by decide +kernel
theorem dX9_reform_151 : decode cX9_reform 151 = .ok (.istore 6, 2) := by decide +kernel
theorem dX9_reform_153 : decode cX9_reform 153 = .ok (.iload 5, 2) := by decide +kernel
theorem dX9_reform_155 : decode cX9_reform 155 = .ok (.ifCond .eq 15, 3) := by decide +kernel
theorem dX9_reform_158 : decode cX9_reform 158 = .ok (.iload 6, 2) := by decide +kernel
theorem dX9_reform_160 : decode cX9_reform 160 = .ok (.iload_n 3, 1) := by decide +kernel
theorem dX9_reform_161 : decode cX9_reform 161 = .ok (.if_icmp .ge 9, 3) := by decide +kernel
theorem dX9_reform_164 : decode cX9_reform 164 = .ok (.iload 6, 2) := by decide +kernel
theorem dX9_reform_166 : decode cX9_reform 166 = .ok (.istore_n 3, 1) := by decide +kernel
theorem dX9_reform_167 : decode cX9_reform 167 = .ok (.iload 4, 2) := by decide +kernel
theorem dX9_reform_169 : decode cX9_reform 169 = .ok (.istore_n 2, 1) := by decide +kernel
theorem dX9_reform_170 : decode cX9_reform 170 = .ok (.iinc 4 1, 3) := by decide +kernel
theorem dX9_reform_173 : decode cX9_reform 173 = .ok (.goto (-149), 3) := by decide +kernel
theorem dX9_reform_176 : decode cX9_reform 176 = .ok (.iload_n 2, 1) := by decide +kernel
theorem dX9_reform_177 : decode cX9_reform 177 = .ok (.ireturn, 1) := by decide +kernel
theorem zd_X9_reform : yX9_reform.cls ≠ "java/lang/invoke/MethodHandle" ∧ yX9_reform.cls ≠ "java/lang/invoke/VarHandle" ∧ (parseMethodDescriptor yX9_reform.desc).map (fun d => d.parameters.length) = some 1 := by decide +kernel
set_option maxHeartbeats 4000000 in
set_option maxRecDepth 100000 in
theorem zc_X9_reform (l : Launch) (D : va_G) (cI cZ : ClassId) (M : Nat) (th : Int32) (mtx : Nat) (len : Nat) (pl : Nat) (pr : Int32) (mod_ : Nat) (n : Nat) (mne : Nat) (mro : Nat) (m : Nat) (rrt : Int32) (rfr : Int32) (rpr : Int32) (mrod : Nat) (rn9 : Nat) (mrne : Nat) (mrro : Nat) (rm9 : Nat) (mrp : Nat) (mpg : Nat) (mbk : Nat) (ac : Nat) (mke : Nat) (mik : Nat) (cr : Nat) (mrw : Nat) (mrd : Nat) (sd : Int64) (mtr : Nat) (mwo : Nat) (mnx : Nat) (jr : Int32) (q5 : Nat) (r5 : Nat) (g : Nat → Int32) (f : Nat → Int32) (x1 : Int32) (hn : n ≤ 5) (hpg : zpr n f g) (hq : q5 ≤ 9) (hr : r5 ≤ 9) : zI l yX9_reform cX9_reform 8 .int 2 45 D cI cZ [.ref M, .int x1] [(M, .inr (9, [.int th, .ref mtx, .int (nI len), .int (nI pl), .int (nI q5), .int (nI r5), .int pr, .ref mod_, .int (nI n), .ref mne, .ref mro, .int (nI m), .int rrt, .int rfr, .int rpr, .ref mrod, .int (nI rn9), .ref mrne, .ref mrro, .int (nI rm9), .ref mrp, .ref mpg, .ref mbk, .int (nI ac), .ref mke, .ref mik, .int (nI cr), .ref mrw, .ref mrd, .long sd, .ref mtr, .ref mwo, .ref mnx, .int jr])), (mpg, .inl (cI, 36, .inl g))] (fun (r : Int32) (u : Unit) => r = zKa x1 (fun k => (znr f (nI q5) (nI r5) n k 10).1) (-2)) (fun (u : Unit) => [(M, .inr (9, [.int (nI 0), .ref mtx, .int (nI len), .int (nI pl), .int (nI q5), .int (nI r5), .int pr, .ref mod_, .int (nI n), .ref mne, .ref mro, .int (nI m), .int rrt, .int rfr, .int rpr, .ref mrod, .int (nI rn9), .ref mrne, .ref mrro, .int (nI rm9), .ref mrp, .ref mpg, .ref mbk, .int (nI ac), .ref mke, .ref mik, .int (nI cr), .ref mrw, .ref mrd, .long sd, .ref mtr, .ref mwo, .ref mnx, .int jr])), (mpg, .inl (cI, 36, .inl g))]) := by
  refine zI_of (by decide) (Nat.le_of_ble_eq_true rfl) ?_
  intro pP eE sS mM aA bB mT cC A ls Z hP hD hS hl
  have hx := Z.1
  have hb := Z.2.1
  have hown := Z.2.2.2.2.2.1
  have hts := Z.2.2.2.2.1
  have Z : zAt pP sS mM aA mT cC D cI cZ A "SurpriseTaxModel" cX9_reform 8 (some .int) := Z
  have hl : lv_has ls 8 [(0, .ref M), (1, .int x1)] := hl
  obtain ⟨H, hH⟩ : ∃ H, H = sS.heap := ⟨_, rfl⟩
  have hP : va_P D vwCl [(M, .inr (9, [.int th, .ref mtx, .int (nI len), .int (nI pl), .int (nI q5), .int (nI r5), .int pr, .ref mod_, .int (nI n), .ref mne, .ref mro, .int (nI m), .int rrt, .int rfr, .int rpr, .ref mrod, .int (nI rn9), .ref mrne, .ref mrro, .int (nI rm9), .ref mrp, .ref mpg, .ref mbk, .int (nI ac), .ref mke, .ref mik, .int (nI cr), .ref mrw, .ref mrd, .long sd, .ref mtr, .ref mwo, .ref mnx, .int jr])), (mpg, .inl (cI, 36, .inl g))] H := by rw [hH]; exact hP
  have hS : va_S A sS.heap H [] := by rw [hH]; exact hS
  rw [← hH]
  clear hH
  obtain ⟨locs, hlo⟩ : ∃ q : List Loc, q = [] := ⟨_, rfl⟩
  rw [← hlo] at hS ⊢
  clear hlo
  refine lv_aload_n hx hb dX9_reform_0 rfl (lv_at hl 0 rfl) ?_
  refine lv_iconst (v := nI 0) hx hb dX9_reform_1 (by decide) ?_
  refine z_put (ci := 9) (v := .int (nI 0)) Z zin9 tyX9 tyX9_ok nmX9 hP hD hS 0 rfl rfl 0 (by decide) zm677 rfl rfl rfl rfl (Nat.le_of_ble_eq_true rfl) dX9_reform_2 (fun H locs hP hD hS => ?_)
  have hP : va_P D vwCl [(M, .inr (9, [.int (nI 0), .ref mtx, .int (nI len), .int (nI pl), .int (nI q5), .int (nI r5), .int pr, .ref mod_, .int (nI n), .ref mne, .ref mro, .int (nI m), .int rrt, .int rfr, .int rpr, .ref mrod, .int (nI rn9), .ref mrne, .ref mrro, .int (nI rm9), .ref mrp, .ref mpg, .ref mbk, .int (nI ac), .ref mke, .ref mik, .int (nI cr), .ref mrw, .ref mrd, .long sd, .ref mtr, .ref mwo, .ref mnx, .int jr])), (mpg, .inl (cI, 36, .inl g))] H := hP
  have hD : va_D A [(M, .inr (9, [.int (nI 0), .ref mtx, .int (nI len), .int (nI pl), .int (nI q5), .int (nI r5), .int pr, .ref mod_, .int (nI n), .ref mne, .ref mro, .int (nI m), .int rrt, .int rfr, .int rpr, .ref mrod, .int (nI rn9), .ref mrne, .ref mrro, .int (nI rm9), .ref mrp, .ref mpg, .ref mbk, .int (nI ac), .ref mke, .ref mik, .int (nI cr), .ref mrw, .ref mrd, .long sd, .ref mtr, .ref mwo, .ref mnx, .int jr])), (mpg, .inl (cI, 36, .inl g))] := hD
  refine lv_iload_n hx hb dX9_reform_5 rfl (lv_at hl 1 rfl) ?_
  refine z_callSi (As := [.int x1]) (rest := []) Z hP hD hS hl.1 (zc_X9_noKind l D cI cZ x1 ) zm806 zm807 zm39 zm808 zd_X9_noKind ⟨Nat.le_of_ble_eq_true rfl, Nat.le_of_ble_eq_true rfl⟩ ⟨Nat.zero_le _, Nat.zero_le _⟩ [] rfl (by decide) (fun _ => rfl) rfl (Nat.le_of_ble_eq_true rfl) rfl dX9_reform_6 (fun r_1 u H locs h_2 hP hD hS => ?_)
  have hP : va_P D vwCl [(M, .inr (9, [.int (nI 0), .ref mtx, .int (nI len), .int (nI pl), .int (nI q5), .int (nI r5), .int pr, .ref mod_, .int (nI n), .ref mne, .ref mro, .int (nI m), .int rrt, .int rfr, .int rpr, .ref mrod, .int (nI rn9), .ref mrne, .ref mrro, .int (nI rm9), .ref mrp, .ref mpg, .ref mbk, .int (nI ac), .ref mke, .ref mik, .int (nI cr), .ref mrw, .ref mrd, .long sd, .ref mtr, .ref mwo, .ref mnx, .int jr])), (mpg, .inl (cI, 36, .inl g))] H := hP
  have hD : va_D A [(M, .inr (9, [.int (nI 0), .ref mtx, .int (nI len), .int (nI pl), .int (nI q5), .int (nI r5), .int pr, .ref mod_, .int (nI n), .ref mne, .ref mro, .int (nI m), .int rrt, .int rfr, .int rpr, .ref mrod, .int (nI rn9), .ref mrne, .ref mrro, .int (nI rm9), .ref mrp, .ref mpg, .ref mbk, .int (nI ac), .ref mke, .ref mik, .int (nI cr), .ref mrw, .ref mrd, .long sd, .ref mtr, .ref mwo, .ref mnx, .int jr])), (mpg, .inl (cI, 36, .inl g))] := hD
  have h_2 : r_1 = if ¬ zkind x1 then 1 else 0 := h_2
  subst h_2
  refine lv_if_eq (tgt := 15) hx hb dX9_reform_9 (by decide) (fun c_3 => ?_) (fun c_3 => ?_)
  · have c_3 := zb0 c_3
    have hzk := Classical.not_not.mp c_3
    obtain ⟨k, hk, rfl⟩ := zkind_of hzk
    refine lv_bipush (v := -9) hx hb dX9_reform_15 (by decide) ?_
    refine lv_istore_n (lv' := [(2, .int (-9)), (0, .ref M), (1, .int (nI k))]) hx hb dX9_reform_17 rfl hl (by decide) rfl (fun ls hl => ?_)
    refine lv_bipush (v := nI 99) hx hb dX9_reform_18 (by decide) ?_
    refine lv_istore_n (lv' := [(3, .int (nI 99)), (2, .int (-9)), (0, .ref M), (1, .int (nI k))]) hx hb dX9_reform_20 rfl hl (by decide) rfl (fun ls hl => ?_)
    refine lv_iconst (v := nI 0) hx hb dX9_reform_21 (by decide) ?_
    refine lv_istore (lv' := [(4, .int (nI 0)), (3, .int (nI 99)), (2, .int (-9)), (0, .ref M), (1, .int (nI k))]) hx hb dX9_reform_22 hl (by decide) rfl (fun ls hl => ?_)
    have hl : lv_has ls 8 [(4, .int (nI 0)), (3, .int (nI 99)), (2, .int (-9)), (0, .ref M), (1, .int (nI k))] := lv_sub hl [0, 1, 2, 3, 4] rfl
    have e_5 : nI 99 = 99 := by rfl
    have hl : lv_has ls 8 [(4, .int (nI 0)), (3, .int 99), (2, .int (-9)), (0, .ref M), (1, .int (nI k))] := Eq.subst (motive := fun zz_ => lv_has ls 8 [(4, .int (nI 0)), (3, .int zz_), (2, .int (-9)), (0, .ref M), (1, .int (nI k))]) e_5 hl
    have e_6 : -9 = (zns f (nI q5) (nI r5) n k 0).1 := by rfl
    have hl : lv_has ls 8 [(4, .int (nI 0)), (3, .int 99), (2, .int ((zns f (nI q5) (nI r5) n k 0).1)), (0, .ref M), (1, .int (nI k))] := Eq.subst (motive := fun zz_ => lv_has ls 8 [(4, .int (nI 0)), (3, .int 99), (2, .int zz_), (0, .ref M), (1, .int (nI k))]) e_6 hl
    refine z_loopm (fun (x_ : Nat × Int32) H locs ls => va_P D vwCl [(M, .inr (9, [.int (nI 0), .ref mtx, .int (nI len), .int (nI pl), .int (nI q5), .int (nI r5), .int pr, .ref mod_, .int (nI n), .ref mne, .ref mro, .int (nI m), .int rrt, .int rfr, .int rpr, .ref mrod, .int (nI rn9), .ref mrne, .ref mrro, .int (nI rm9), .ref mrp, .ref mpg, .ref mbk, .int (nI ac), .ref mke, .ref mik, .int (nI cr), .ref mrw, .ref mrd, .long sd, .ref mtr, .ref mwo, .ref mnx, .int jr])), (mpg, .inl (cI, 36, .inl g))] H ∧ va_D A [(M, .inr (9, [.int (nI 0), .ref mtx, .int (nI len), .int (nI pl), .int (nI q5), .int (nI r5), .int pr, .ref mod_, .int (nI n), .ref mne, .ref mro, .int (nI m), .int rrt, .int rfr, .int rpr, .ref mrod, .int (nI rn9), .ref mrne, .ref mrro, .int (nI rm9), .ref mrp, .ref mpg, .ref mbk, .int (nI ac), .ref mke, .ref mik, .int (nI cr), .ref mrw, .ref mrd, .long sd, .ref mtr, .ref mwo, .ref mnx, .int jr])), (mpg, .inl (cI, 36, .inl g))] ∧ va_S A sS.heap H locs ∧ lv_has ls 8 [(4, .int (nI x_.1)), (3, .int x_.2), (2, .int ((zns f (nI q5) (nI r5) n k x_.1).1)), (0, .ref M), (1, .int (nI k))] ∧ (x_.1 ≤ 100) ∧ (znI f (nI q5) (nI r5) n k x_.1 x_.2)) (fun x_ => 100 - x_.1) (0, 99) ⟨hP, hD, hS, hl, (by first | exact Or.inr ⟨rfl, rfl⟩ | omega), (by first | exact Or.inr ⟨rfl, rfl⟩ | omega)⟩ (fun x_ ih_4 H locs ls hI => ?_)
    obtain ⟨w, l9⟩ := x_
    obtain ⟨hP, hD, hS, hl, hv24_0, hv24_1⟩ := hI
    dsimp only at ih_4 hv24_0 hv24_1
    have hv24_0 : w ≤ 100 := hv24_0
    have hv24_1 : znI f (nI q5) (nI r5) n k w l9 := hv24_1
    have hP : va_P D vwCl [(M, .inr (9, [.int (nI 0), .ref mtx, .int (nI len), .int (nI pl), .int (nI q5), .int (nI r5), .int pr, .ref mod_, .int (nI n), .ref mne, .ref mro, .int (nI m), .int rrt, .int rfr, .int rpr, .ref mrod, .int (nI rn9), .ref mrne, .ref mrro, .int (nI rm9), .ref mrp, .ref mpg, .ref mbk, .int (nI ac), .ref mke, .ref mik, .int (nI cr), .ref mrw, .ref mrd, .long sd, .ref mtr, .ref mwo, .ref mnx, .int jr])), (mpg, .inl (cI, 36, .inl g))] H := hP
    have hD : va_D A [(M, .inr (9, [.int (nI 0), .ref mtx, .int (nI len), .int (nI pl), .int (nI q5), .int (nI r5), .int pr, .ref mod_, .int (nI n), .ref mne, .ref mro, .int (nI m), .int rrt, .int rfr, .int rpr, .ref mrod, .int (nI rn9), .ref mrne, .ref mrro, .int (nI rm9), .ref mrp, .ref mpg, .ref mbk, .int (nI ac), .ref mke, .ref mik, .int (nI cr), .ref mrw, .ref mrd, .long sd, .ref mtr, .ref mwo, .ref mnx, .int jr])), (mpg, .inl (cI, 36, .inl g))] := hD
    have hl : lv_has ls 8 [(4, .int (nI w)), (3, .int l9), (2, .int ((zns f (nI q5) (nI r5) n k w).1)), (0, .ref M), (1, .int (nI k))] := hl
    refine lv_iload hx hb dX9_reform_24 (lv_at hl 0 rfl) ?_
    refine lv_bipush (v := nI 100) hx hb dX9_reform_26 (by decide) ?_
    refine lv_icmp_ge (tgt := 176) hx hb dX9_reform_28 (by decide) (fun c_7 => ?_) (fun c_7 => ?_)
    · have c_7 := zle (i := 100) (j := w) (by decide) (by omega) c_7
      have hE_ : 100 = w := by omega
      subst hE_
      refine lv_iload_n hx hb dX9_reform_176 rfl (lv_at hl 2 rfl) ?_
      exact z_iret Z () (by first | rw [zKa_n (by assumption)] | (rw [zKa_y hk, zns_100])) hP hS dX9_reform_177
    · have c_7 := znle (i := 100) (j := w) (by decide) (by omega) c_7
      refine lv_iconst (v := nI 1) hx hb dX9_reform_31 (by decide) ?_
      refine lv_istore (lv' := [(5, .int (nI 1)), (4, .int (nI w)), (3, .int l9), (2, .int ((zns f (nI q5) (nI r5) n k w).1)), (0, .ref M), (1, .int (nI k))]) hx hb dX9_reform_32 hl (by decide) rfl (fun ls hl => ?_)
      refine lv_iconst (v := nI 0) hx hb dX9_reform_34 (by decide) ?_
      refine lv_istore (lv' := [(6, .int (nI 0)), (5, .int (nI 1)), (4, .int (nI w)), (3, .int l9), (2, .int ((zns f (nI q5) (nI r5) n k w).1)), (0, .ref M), (1, .int (nI k))]) hx hb dX9_reform_35 hl (by decide) rfl (fun ls hl => ?_)
      have hl : lv_has ls 8 [(6, .int (nI 0)), (5, .int (nI 1)), (4, .int (nI w)), (3, .int l9), (2, .int ((zns f (nI q5) (nI r5) n k w).1)), (0, .ref M), (1, .int (nI k))] := lv_sub hl [0, 1, 2, 3, 4, 5, 6] rfl
      have e_9 : nI 1 = (if zac f (nI (w / 10)) (nI (w % 10)) k 0 = true then 1 else 0) := by rfl
      have hl : lv_has ls 8 [(6, .int (nI 0)), (5, .int (if zac f (nI (w / 10)) (nI (w % 10)) k 0 = true then 1 else 0)), (4, .int (nI w)), (3, .int l9), (2, .int ((zns f (nI q5) (nI r5) n k w).1)), (0, .ref M), (1, .int (nI k))] := Eq.subst (motive := fun zz_ => lv_has ls 8 [(6, .int (nI 0)), (5, .int zz_), (4, .int (nI w)), (3, .int l9), (2, .int ((zns f (nI q5) (nI r5) n k w).1)), (0, .ref M), (1, .int (nI k))]) e_9 hl
      refine z_loop (fun i H locs ls => va_P D vwCl [(M, .inr (9, [.int (nI 0), .ref mtx, .int (nI len), .int (nI pl), .int (nI q5), .int (nI r5), .int pr, .ref mod_, .int (nI n), .ref mne, .ref mro, .int (nI m), .int rrt, .int rfr, .int rpr, .ref mrod, .int (nI rn9), .ref mrne, .ref mrro, .int (nI rm9), .ref mrp, .ref mpg, .ref mbk, .int (nI ac), .ref mke, .ref mik, .int (nI cr), .ref mrw, .ref mrd, .long sd, .ref mtr, .ref mwo, .ref mnx, .int jr])), (mpg, .inl (cI, 36, .inl g))] H ∧ va_D A [(M, .inr (9, [.int (nI 0), .ref mtx, .int (nI len), .int (nI pl), .int (nI q5), .int (nI r5), .int pr, .ref mod_, .int (nI n), .ref mne, .ref mro, .int (nI m), .int rrt, .int rfr, .int rpr, .ref mrod, .int (nI rn9), .ref mrne, .ref mrro, .int (nI rm9), .ref mrp, .ref mpg, .ref mbk, .int (nI ac), .ref mke, .ref mik, .int (nI cr), .ref mrw, .ref mrd, .long sd, .ref mtr, .ref mwo, .ref mnx, .int jr])), (mpg, .inl (cI, 36, .inl g))] ∧ va_S A sS.heap H locs ∧ lv_has ls 8 [(6, .int (nI i)), (5, .int (if zac f (nI (w / 10)) (nI (w % 10)) k i = true then 1 else 0)), (4, .int (nI w)), (3, .int l9), (2, .int ((zns f (nI q5) (nI r5) n k w).1)), (0, .ref M), (1, .int (nI k))]) (n) (lo := 0) (by omega) ⟨hP, hD, hS, hl⟩ (fun i hi_i ih_8 H locs ls hI => ?_)
      obtain ⟨hP, hD, hS, hl⟩ := hI
      have hP : va_P D vwCl [(M, .inr (9, [.int (nI 0), .ref mtx, .int (nI len), .int (nI pl), .int (nI q5), .int (nI r5), .int pr, .ref mod_, .int (nI n), .ref mne, .ref mro, .int (nI m), .int rrt, .int rfr, .int rpr, .ref mrod, .int (nI rn9), .ref mrne, .ref mrro, .int (nI rm9), .ref mrp, .ref mpg, .ref mbk, .int (nI ac), .ref mke, .ref mik, .int (nI cr), .ref mrw, .ref mrd, .long sd, .ref mtr, .ref mwo, .ref mnx, .int jr])), (mpg, .inl (cI, 36, .inl g))] H := hP
      have hD : va_D A [(M, .inr (9, [.int (nI 0), .ref mtx, .int (nI len), .int (nI pl), .int (nI q5), .int (nI r5), .int pr, .ref mod_, .int (nI n), .ref mne, .ref mro, .int (nI m), .int rrt, .int rfr, .int rpr, .ref mrod, .int (nI rn9), .ref mrne, .ref mrro, .int (nI rm9), .ref mrp, .ref mpg, .ref mbk, .int (nI ac), .ref mke, .ref mik, .int (nI cr), .ref mrw, .ref mrd, .long sd, .ref mtr, .ref mwo, .ref mnx, .int jr])), (mpg, .inl (cI, 36, .inl g))] := hD
      have hl : lv_has ls 8 [(6, .int (nI i)), (5, .int (if zac f (nI (w / 10)) (nI (w % 10)) k i = true then 1 else 0)), (4, .int (nI w)), (3, .int l9), (2, .int ((zns f (nI q5) (nI r5) n k w).1)), (0, .ref M), (1, .int (nI k))] := hl
      refine lv_iload hx hb dX9_reform_37 (lv_at hl 0 rfl) ?_
      refine lv_aload_n hx hb dX9_reform_39 rfl (lv_at hl 5 rfl) ?_
      refine z_get (ci := 9) (v := .int (nI n)) Z zin9 hP 0 rfl rfl 8 (by decide) zm685 rfl rfl dX9_reform_40 ?_
      refine lv_icmp_ge (tgt := 126) hx hb dX9_reform_43 (by decide) (fun c_10 => ?_) (fun c_10 => ?_)
      · have c_10 := zle (i := n) (j := i) (by omega) (by omega) c_10
        have hE_ : n = i := by omega
        subst hE_
        refine lv_iload hx hb dX9_reform_126 (lv_at hl 2 rfl) ?_
        refine lv_bipush (v := nI 10) hx hb dX9_reform_128 (by decide) ?_
        refine lv_idiv hx hb dX9_reform_130 (by decide) ?_
        refine z_top (y := nI (w / 10)) (pk_div (by omega) (by decide) (by decide)) ?_
        refine lv_aload_n hx hb dX9_reform_131 rfl (lv_at hl 5 rfl) ?_
        refine z_get (ci := 9) (v := .int (nI q5)) Z zin9 hP 0 rfl rfl 4 (by decide) zm681 rfl rfl dX9_reform_132 ?_
        refine z_callSi (As := [.int (nI (w / 10)), .int (nI q5)]) (rest := []) Z hP hD hS hl.1 (zc_X9_apart l D cI cZ (nI (w / 10)) (nI q5) ) zm899 zm900 zm39 zm901 zd_X9_apart ⟨Nat.le_of_ble_eq_true rfl, Nat.le_of_ble_eq_true rfl⟩ ⟨Nat.zero_le _, Nat.zero_le _⟩ [] rfl (by decide) (fun _ => rfl) rfl (Nat.le_of_ble_eq_true rfl) rfl dX9_reform_135 (fun r_11 u H locs h_12 hP hD hS => ?_)
        have hP : va_P D vwCl [(M, .inr (9, [.int (nI 0), .ref mtx, .int (nI len), .int (nI pl), .int (nI q5), .int (nI r5), .int pr, .ref mod_, .int (nI n), .ref mne, .ref mro, .int (nI m), .int rrt, .int rfr, .int rpr, .ref mrod, .int (nI rn9), .ref mrne, .ref mrro, .int (nI rm9), .ref mrp, .ref mpg, .ref mbk, .int (nI ac), .ref mke, .ref mik, .int (nI cr), .ref mrw, .ref mrd, .long sd, .ref mtr, .ref mwo, .ref mnx, .int jr])), (mpg, .inl (cI, 36, .inl g))] H := hP
        have hD : va_D A [(M, .inr (9, [.int (nI 0), .ref mtx, .int (nI len), .int (nI pl), .int (nI q5), .int (nI r5), .int pr, .ref mod_, .int (nI n), .ref mne, .ref mro, .int (nI m), .int rrt, .int rfr, .int rpr, .ref mrod, .int (nI rn9), .ref mrne, .ref mrro, .int (nI rm9), .ref mrp, .ref mpg, .ref mbk, .int (nI ac), .ref mke, .ref mik, .int (nI cr), .ref mrw, .ref mrd, .long sd, .ref mtr, .ref mwo, .ref mnx, .int jr])), (mpg, .inl (cI, 36, .inl g))] := hD
        have h_12 : r_11 = zapa (nI (w / 10)) (nI q5) := h_12
        subst h_12
        refine z_top (y := zab (nI (w / 10) - nI q5)) (zapa_zab _ (by omega) _ hq) ?_
        refine lv_iload hx hb dX9_reform_138 (lv_at hl 2 rfl) ?_
        refine lv_bipush (v := nI 10) hx hb dX9_reform_140 (by decide) ?_
        refine lv_irem hx hb dX9_reform_142 (by decide) ?_
        refine z_top (y := nI (w % 10)) (pk_rem (by omega) (by decide) (by decide)) ?_
        refine lv_aload_n hx hb dX9_reform_143 rfl (lv_at hl 5 rfl) ?_
        refine z_get (ci := 9) (v := .int (nI r5)) Z zin9 hP 0 rfl rfl 5 (by decide) zm682 rfl rfl dX9_reform_144 ?_
        refine z_callSi (As := [.int (nI (w % 10)), .int (nI r5)]) (rest := [.int (zab (nI (w / 10) - nI q5))]) Z hP hD hS hl.1 (zc_X9_apart l D cI cZ (nI (w % 10)) (nI r5) ) zm899 zm900 zm39 zm901 zd_X9_apart ⟨Nat.le_of_ble_eq_true rfl, Nat.le_of_ble_eq_true rfl⟩ ⟨Nat.zero_le _, Nat.zero_le _⟩ [] rfl (by decide) (fun _ => rfl) rfl (Nat.le_of_ble_eq_true rfl) rfl dX9_reform_147 (fun r_13 u H locs h_14 hP hD hS => ?_)
        have hP : va_P D vwCl [(M, .inr (9, [.int (nI 0), .ref mtx, .int (nI len), .int (nI pl), .int (nI q5), .int (nI r5), .int pr, .ref mod_, .int (nI n), .ref mne, .ref mro, .int (nI m), .int rrt, .int rfr, .int rpr, .ref mrod, .int (nI rn9), .ref mrne, .ref mrro, .int (nI rm9), .ref mrp, .ref mpg, .ref mbk, .int (nI ac), .ref mke, .ref mik, .int (nI cr), .ref mrw, .ref mrd, .long sd, .ref mtr, .ref mwo, .ref mnx, .int jr])), (mpg, .inl (cI, 36, .inl g))] H := hP
        have hD : va_D A [(M, .inr (9, [.int (nI 0), .ref mtx, .int (nI len), .int (nI pl), .int (nI q5), .int (nI r5), .int pr, .ref mod_, .int (nI n), .ref mne, .ref mro, .int (nI m), .int rrt, .int rfr, .int rpr, .ref mrod, .int (nI rn9), .ref mrne, .ref mrro, .int (nI rm9), .ref mrp, .ref mpg, .ref mbk, .int (nI ac), .ref mke, .ref mik, .int (nI cr), .ref mrw, .ref mrd, .long sd, .ref mtr, .ref mwo, .ref mnx, .int jr])), (mpg, .inl (cI, 36, .inl g))] := hD
        have h_14 : r_13 = zapa (nI (w % 10)) (nI r5) := h_14
        subst h_14
        refine z_top (y := zab (nI (w % 10) - nI r5)) (zapa_zab _ (by omega) _ hr) ?_
        refine lv_iadd hx hb dX9_reform_150 ?_
        refine z_top (y := (zab (nI (w / 10) - nI q5)) + (zab (nI (w % 10) - nI r5))) rfl ?_
        refine z_top (y := zcg (nI q5) (nI r5) (w / 10) (w % 10)) (rfl) ?_
        refine lv_istore (lv' := [(6, .int (zcg (nI q5) (nI r5) (w / 10) (w % 10))), (5, .int (if zac f (nI (w / 10)) (nI (w % 10)) k n = true then 1 else 0)), (4, .int (nI w)), (3, .int l9), (2, .int ((zns f (nI q5) (nI r5) n k w).1)), (0, .ref M), (1, .int (nI k))]) hx hb dX9_reform_151 hl (by decide) rfl (fun ls hl => ?_)
        refine lv_iload hx hb dX9_reform_153 (lv_at hl 1 rfl) ?_
        refine lv_if_eq (tgt := 170) hx hb dX9_reform_155 (by decide) (fun c_15 => ?_) (fun c_15 => ?_)
        · have c_15 := zb0 c_15
          refine lv_iinc (v := nI (w + 1)) (lv' := [(4, .int (nI (w + 1))), (6, .int (zcg (nI q5) (nI r5) (w / 10) (w % 10))), (5, .int (if zac f (nI (w / 10)) (nI (w % 10)) k n = true then 1 else 0)), (3, .int l9), (2, .int ((zns f (nI q5) (nI r5) n k w).1)), (0, .ref M), (1, .int (nI k))]) hx hb dX9_reform_170 hl (k := 2) rfl (z_inc _ 1) (by decide) rfl (fun ls hl => ?_)
          refine lv_goto (tgt := 24) hx hb dX9_reform_173 (by decide) ?_
          have hl : lv_has ls 8 [(4, .int (nI (w + 1))), (3, .int l9), (2, .int ((zns f (nI q5) (nI r5) n k w).1)), (0, .ref M), (1, .int (nI k))] := lv_sub hl [0, 3, 4, 5, 6] rfl
          have e_16 : (zns f (nI q5) (nI r5) n k w).1 = (zns f (nI q5) (nI r5) n k (w + 1)).1 := by first | rw [zns_no (by assumption)] | rw [zns_le ((znI_le hv24_1 hq hr (by omega)).mp (by assumption))] | rw [zns_yes (by assumption) (fun z => absurd ((znI_le hv24_1 hq hr (by omega)).mpr z) (by assumption))] | rfl
          have hl : lv_has ls 8 [(4, .int (nI (w + 1))), (3, .int l9), (2, .int ((zns f (nI q5) (nI r5) n k (w + 1)).1)), (0, .ref M), (1, .int (nI k))] := Eq.subst (motive := fun zz_ => lv_has ls 8 [(4, .int (nI (w + 1))), (3, .int l9), (2, .int zz_), (0, .ref M), (1, .int (nI k))]) e_16 hl
          exact ih_4 (w + 1, l9) _ _ _ (by omega) ⟨hP, hD, hS, hl, (by first | omega | exact znI_k hv24_1 (zns_no (by assumption)) | exact znI_k hv24_1 (zns_le ((znI_le hv24_1 hq hr (by omega)).mp (by assumption))) | exact Or.inl (by rw [zns_yes (by assumption) (fun z => absurd ((znI_le hv24_1 hq hr (by omega)).mpr z) (by assumption))])), (by first | omega | exact znI_k hv24_1 (zns_no (by assumption)) | exact znI_k hv24_1 (zns_le ((znI_le hv24_1 hq hr (by omega)).mp (by assumption))) | exact Or.inl (by rw [zns_yes (by assumption) (fun z => absurd ((znI_le hv24_1 hq hr (by omega)).mpr z) (by assumption))]))⟩
        · have c_15 := zb1 c_15
          refine lv_iload hx hb dX9_reform_158 (lv_at hl 0 rfl) ?_
          refine lv_iload_n hx hb dX9_reform_160 rfl (lv_at hl 3 rfl) ?_
          refine lv_icmp_ge (tgt := 170) hx hb dX9_reform_161 (by decide) (fun c_17 => ?_) (fun c_17 => ?_)
          · have c_17 : l9 ≤ (zcg (nI q5) (nI r5) (w / 10) (w % 10)) := c_17
            refine lv_iinc (v := nI (w + 1)) (lv' := [(4, .int (nI (w + 1))), (6, .int (zcg (nI q5) (nI r5) (w / 10) (w % 10))), (5, .int (if zac f (nI (w / 10)) (nI (w % 10)) k n = true then 1 else 0)), (3, .int l9), (2, .int ((zns f (nI q5) (nI r5) n k w).1)), (0, .ref M), (1, .int (nI k))]) hx hb dX9_reform_170 hl (k := 2) rfl (z_inc _ 1) (by decide) rfl (fun ls hl => ?_)
            refine lv_goto (tgt := 24) hx hb dX9_reform_173 (by decide) ?_
            have hl : lv_has ls 8 [(4, .int (nI (w + 1))), (3, .int l9), (2, .int ((zns f (nI q5) (nI r5) n k w).1)), (0, .ref M), (1, .int (nI k))] := lv_sub hl [0, 3, 4, 5, 6] rfl
            have e_18 : (zns f (nI q5) (nI r5) n k w).1 = (zns f (nI q5) (nI r5) n k (w + 1)).1 := by first | rw [zns_no (by assumption)] | rw [zns_le ((znI_le hv24_1 hq hr (by omega)).mp (by assumption))] | rw [zns_yes (by assumption) (fun z => absurd ((znI_le hv24_1 hq hr (by omega)).mpr z) (by assumption))] | rfl
            have hl : lv_has ls 8 [(4, .int (nI (w + 1))), (3, .int l9), (2, .int ((zns f (nI q5) (nI r5) n k (w + 1)).1)), (0, .ref M), (1, .int (nI k))] := Eq.subst (motive := fun zz_ => lv_has ls 8 [(4, .int (nI (w + 1))), (3, .int l9), (2, .int zz_), (0, .ref M), (1, .int (nI k))]) e_18 hl
            exact ih_4 (w + 1, l9) _ _ _ (by omega) ⟨hP, hD, hS, hl, (by first | omega | exact znI_k hv24_1 (zns_no (by assumption)) | exact znI_k hv24_1 (zns_le ((znI_le hv24_1 hq hr (by omega)).mp (by assumption))) | exact Or.inl (by rw [zns_yes (by assumption) (fun z => absurd ((znI_le hv24_1 hq hr (by omega)).mpr z) (by assumption))])), (by first | omega | exact znI_k hv24_1 (zns_no (by assumption)) | exact znI_k hv24_1 (zns_le ((znI_le hv24_1 hq hr (by omega)).mp (by assumption))) | exact Or.inl (by rw [zns_yes (by assumption) (fun z => absurd ((znI_le hv24_1 hq hr (by omega)).mpr z) (by assumption))]))⟩
          · have c_17 : ¬ (l9 ≤ (zcg (nI q5) (nI r5) (w / 10) (w % 10))) := c_17
            refine lv_iload hx hb dX9_reform_164 (lv_at hl 0 rfl) ?_
            refine lv_istore_n (lv' := [(3, .int (zcg (nI q5) (nI r5) (w / 10) (w % 10))), (6, .int (zcg (nI q5) (nI r5) (w / 10) (w % 10))), (5, .int (if zac f (nI (w / 10)) (nI (w % 10)) k n = true then 1 else 0)), (4, .int (nI w)), (2, .int ((zns f (nI q5) (nI r5) n k w).1)), (0, .ref M), (1, .int (nI k))]) hx hb dX9_reform_166 rfl hl (by decide) rfl (fun ls hl => ?_)
            refine lv_iload hx hb dX9_reform_167 (lv_at hl 3 rfl) ?_
            refine lv_istore_n (lv' := [(2, .int (nI w)), (3, .int (zcg (nI q5) (nI r5) (w / 10) (w % 10))), (6, .int (zcg (nI q5) (nI r5) (w / 10) (w % 10))), (5, .int (if zac f (nI (w / 10)) (nI (w % 10)) k n = true then 1 else 0)), (4, .int (nI w)), (0, .ref M), (1, .int (nI k))]) hx hb dX9_reform_169 rfl hl (by decide) rfl (fun ls hl => ?_)
            refine lv_iinc (v := nI (w + 1)) (lv' := [(4, .int (nI (w + 1))), (2, .int (nI w)), (3, .int (zcg (nI q5) (nI r5) (w / 10) (w % 10))), (6, .int (zcg (nI q5) (nI r5) (w / 10) (w % 10))), (5, .int (if zac f (nI (w / 10)) (nI (w % 10)) k n = true then 1 else 0)), (0, .ref M), (1, .int (nI k))]) hx hb dX9_reform_170 hl (k := 4) rfl (z_inc _ 1) (by decide) rfl (fun ls hl => ?_)
            refine lv_goto (tgt := 24) hx hb dX9_reform_173 (by decide) ?_
            have hl : lv_has ls 8 [(4, .int (nI (w + 1))), (3, .int (zcg (nI q5) (nI r5) (w / 10) (w % 10))), (2, .int (nI w)), (0, .ref M), (1, .int (nI k))] := lv_sub hl [0, 2, 1, 5, 6] rfl
            have e_19 : zcg (nI q5) (nI r5) (w / 10) (w % 10) = (zcg (nI q5) (nI r5) (w / 10) (w % 10)) := by first | rw [zns_no (by assumption)] | rw [zns_le ((znI_le hv24_1 hq hr (by omega)).mp (by assumption))] | rw [zns_yes (by assumption) (fun z => absurd ((znI_le hv24_1 hq hr (by omega)).mpr z) (by assumption))] | rfl
            have hl : lv_has ls 8 [(4, .int (nI (w + 1))), (3, .int (zcg (nI q5) (nI r5) (w / 10) (w % 10))), (2, .int (nI w)), (0, .ref M), (1, .int (nI k))] := Eq.subst (motive := fun zz_ => lv_has ls 8 [(4, .int (nI (w + 1))), (3, .int zz_), (2, .int (nI w)), (0, .ref M), (1, .int (nI k))]) e_19 hl
            have e_20 : nI w = (zns f (nI q5) (nI r5) n k (w + 1)).1 := by first | rw [zns_no (by assumption)] | rw [zns_le ((znI_le hv24_1 hq hr (by omega)).mp (by assumption))] | rw [zns_yes (by assumption) (fun z => absurd ((znI_le hv24_1 hq hr (by omega)).mpr z) (by assumption))] | rfl
            have hl : lv_has ls 8 [(4, .int (nI (w + 1))), (3, .int (zcg (nI q5) (nI r5) (w / 10) (w % 10))), (2, .int ((zns f (nI q5) (nI r5) n k (w + 1)).1)), (0, .ref M), (1, .int (nI k))] := Eq.subst (motive := fun zz_ => lv_has ls 8 [(4, .int (nI (w + 1))), (3, .int (zcg (nI q5) (nI r5) (w / 10) (w % 10))), (2, .int zz_), (0, .ref M), (1, .int (nI k))]) e_20 hl
            exact ih_4 (w + 1, zcg (nI q5) (nI r5) (w / 10) (w % 10)) _ _ _ (by omega) ⟨hP, hD, hS, hl, (by first | omega | exact znI_k hv24_1 (zns_no (by assumption)) | exact znI_k hv24_1 (zns_le ((znI_le hv24_1 hq hr (by omega)).mp (by assumption))) | exact Or.inl (by rw [zns_yes (by assumption) (fun z => absurd ((znI_le hv24_1 hq hr (by omega)).mpr z) (by assumption))])), (by first | omega | exact znI_k hv24_1 (zns_no (by assumption)) | exact znI_k hv24_1 (zns_le ((znI_le hv24_1 hq hr (by omega)).mp (by assumption))) | exact Or.inl (by rw [zns_yes (by assumption) (fun z => absurd ((znI_le hv24_1 hq hr (by omega)).mpr z) (by assumption))]))⟩
      · have c_10 := znle (i := n) (j := i) (by omega) (by omega) c_10
        refine lv_bipush (v := nI 7) hx hb dX9_reform_46 (by decide) ?_
        refine lv_iload hx hb dX9_reform_48 (lv_at hl 0 rfl) ?_
        refine lv_imul hx hb dX9_reform_50 ?_
        refine z_top (y := nI (7 * i)) (z_mul _ _) ?_
        refine lv_istore (lv' := [(7, .int (nI (7 * i))), (6, .int (nI i)), (5, .int (if zac f (nI (w / 10)) (nI (w % 10)) k i = true then 1 else 0)), (4, .int (nI w)), (3, .int l9), (2, .int ((zns f (nI q5) (nI r5) n k w).1)), (0, .ref M), (1, .int (nI k))]) hx hb dX9_reform_51 hl (by decide) rfl (fun ls hl => ?_)
        refine lv_iload hx hb dX9_reform_53 (lv_at hl 2 rfl) ?_
        refine lv_if_eq (tgt := 117) hx hb dX9_reform_55 (by decide) (fun c_21 => ?_) (fun c_21 => ?_)
        · have c_21 := zb0 c_21
          refine lv_iconst (v := nI 0) hx hb dX9_reform_117 (by decide) ?_
          refine lv_istore (lv' := [(5, .int (nI 0)), (7, .int (nI (7 * i))), (6, .int (nI i)), (4, .int (nI w)), (3, .int l9), (2, .int ((zns f (nI q5) (nI r5) n k w).1)), (0, .ref M), (1, .int (nI k))]) hx hb dX9_reform_118 hl (by decide) rfl (fun ls hl => ?_)
          refine lv_iinc (v := nI (i + 1)) (lv' := [(6, .int (nI (i + 1))), (5, .int (nI 0)), (7, .int (nI (7 * i))), (4, .int (nI w)), (3, .int l9), (2, .int ((zns f (nI q5) (nI r5) n k w).1)), (0, .ref M), (1, .int (nI k))]) hx hb dX9_reform_120 hl (k := 2) rfl (z_inc _ 1) (by decide) rfl (fun ls hl => ?_)
          refine lv_goto (tgt := 37) hx hb dX9_reform_123 (by decide) ?_
          have hl : lv_has ls 8 [(6, .int (nI (i + 1))), (5, .int (nI 0)), (4, .int (nI w)), (3, .int l9), (2, .int ((zns f (nI q5) (nI r5) n k w).1)), (0, .ref M), (1, .int (nI k))] := lv_sub hl [0, 1, 3, 4, 5, 6, 7] rfl
          have e_22 : nI 0 = (if zac f (nI (w / 10)) (nI (w % 10)) k (i + 1) = true then 1 else 0) := by first | exact zac_st (by assumption) (Int32.not_lt.mp (by assumption)) | exact zac_sf (Int32.not_le.mpr (by assumption)) | exact zac_sn (by assumption)
          have hl : lv_has ls 8 [(6, .int (nI (i + 1))), (5, .int (if zac f (nI (w / 10)) (nI (w % 10)) k (i + 1) = true then 1 else 0)), (4, .int (nI w)), (3, .int l9), (2, .int ((zns f (nI q5) (nI r5) n k w).1)), (0, .ref M), (1, .int (nI k))] := Eq.subst (motive := fun zz_ => lv_has ls 8 [(6, .int (nI (i + 1))), (5, .int zz_), (4, .int (nI w)), (3, .int l9), (2, .int ((zns f (nI q5) (nI r5) n k w).1)), (0, .ref M), (1, .int (nI k))]) e_22 hl
          exact ih_8 _ _ _ (by omega) ⟨hP, hD, hS, hl⟩
        · have c_21 := zb1 c_21
          refine lv_aload_n hx hb dX9_reform_58 rfl (lv_at hl 6 rfl) ?_
          refine z_get (ci := 9) (v := .ref mpg) Z zin9 hP 0 rfl rfl 21 (by decide) zm698 rfl rfl dX9_reform_59 ?_
          refine lv_iload hx hb dX9_reform_62 (lv_at hl 0 rfl) ?_
          refine lv_iconst (v := nI 4) hx hb dX9_reform_64 (by decide) ?_
          refine lv_iadd hx hb dX9_reform_65 ?_
          refine z_top (y := nI (7 * i + 4)) (z_add _ _) ?_
          refine z_iald (n := 36) (f := g) (j := 7 * i + 4) Z hP 1 rfl (by omega) (by decide) dX9_reform_66 ?_
          refine z_top (y := f (20 + i)) ((hpg.1 i (by omega)).2.1) ?_
          refine lv_iload hx hb dX9_reform_67 (lv_at hl 3 rfl) ?_
          refine lv_bipush (v := nI 10) hx hb dX9_reform_69 (by decide) ?_
          refine lv_idiv hx hb dX9_reform_71 (by decide) ?_
          refine z_top (y := nI (w / 10)) (pk_div (by omega) (by decide) (by decide)) ?_
          refine lv_aload_n hx hb dX9_reform_72 rfl (lv_at hl 6 rfl) ?_
          refine z_get (ci := 9) (v := .ref mpg) Z zin9 hP 0 rfl rfl 21 (by decide) zm698 rfl rfl dX9_reform_73 ?_
          refine lv_iload hx hb dX9_reform_76 (lv_at hl 0 rfl) ?_
          refine lv_iload_n hx hb dX9_reform_78 rfl (lv_at hl 7 rfl) ?_
          refine lv_iadd hx hb dX9_reform_79 ?_
          refine z_top (y := nI (7 * i + k)) (z_add _ _) ?_
          refine z_iald (n := 36) (f := g) (j := 7 * i + k) Z hP 1 rfl (by omega) (by decide) dX9_reform_80 ?_
          refine lv_iload_n hx hb dX9_reform_81 rfl (lv_at hl 7 rfl) ?_
          refine lv_aload_n hx hb dX9_reform_82 rfl (lv_at hl 6 rfl) ?_
          refine z_get (ci := 9) (v := .ref mpg) Z zin9 hP 0 rfl rfl 21 (by decide) zm698 rfl rfl dX9_reform_83 ?_
          refine lv_iload hx hb dX9_reform_86 (lv_at hl 0 rfl) ?_
          refine lv_iconst (v := nI 5) hx hb dX9_reform_88 (by decide) ?_
          refine lv_iadd hx hb dX9_reform_89 ?_
          refine z_top (y := nI (7 * i + 5)) (z_add _ _) ?_
          refine z_iald (n := 36) (f := g) (j := 7 * i + 5) Z hP 1 rfl (by omega) (by decide) dX9_reform_90 ?_
          refine lv_aload_n hx hb dX9_reform_91 rfl (lv_at hl 6 rfl) ?_
          refine z_get (ci := 9) (v := .ref mpg) Z zin9 hP 0 rfl rfl 21 (by decide) zm698 rfl rfl dX9_reform_92 ?_
          refine lv_iload hx hb dX9_reform_95 (lv_at hl 0 rfl) ?_
          refine lv_bipush (v := nI 6) hx hb dX9_reform_97 (by decide) ?_
          refine lv_iadd hx hb dX9_reform_99 ?_
          refine z_top (y := nI (7 * i + 6)) (z_add _ _) ?_
          refine z_iald (n := 36) (f := g) (j := 7 * i + 6) Z hP 1 rfl (by omega) (by decide) dX9_reform_100 ?_
          refine lv_iload hx hb dX9_reform_101 (lv_at hl 3 rfl) ?_
          refine lv_bipush (v := nI 10) hx hb dX9_reform_103 (by decide) ?_
          refine lv_irem hx hb dX9_reform_105 (by decide) ?_
          refine z_top (y := nI (w % 10)) (pk_rem (by omega) (by decide) (by decide)) ?_
          refine z_callSi (As := [.int (g (7 * i + k)), .int (nI k), .int (g (7 * i + 5)), .int (g (7 * i + 6)), .int (nI (w % 10))]) (rest := [.int (nI (w / 10)), .int (f (20 + i))]) Z hP hD hS hl.1 (zc_X9_surprise l D cI cZ (g (7 * i + k)) k (g (7 * i + 5)) (g (7 * i + 6)) (nI (w % 10)) (by omega)) zm826 zm827 zm39 zm828 zd_X9_surprise ⟨Nat.le_of_ble_eq_true rfl, Nat.le_of_ble_eq_true rfl⟩ ⟨Nat.zero_le _, Nat.zero_le _⟩ [] rfl (by decide) (fun _ => rfl) rfl (Nat.le_of_ble_eq_true rfl) rfl dX9_reform_106 (fun r_23 u H locs h_24 hP hD hS => ?_)
          have hP : va_P D vwCl [(M, .inr (9, [.int (nI 0), .ref mtx, .int (nI len), .int (nI pl), .int (nI q5), .int (nI r5), .int pr, .ref mod_, .int (nI n), .ref mne, .ref mro, .int (nI m), .int rrt, .int rfr, .int rpr, .ref mrod, .int (nI rn9), .ref mrne, .ref mrro, .int (nI rm9), .ref mrp, .ref mpg, .ref mbk, .int (nI ac), .ref mke, .ref mik, .int (nI cr), .ref mrw, .ref mrd, .long sd, .ref mtr, .ref mwo, .ref mnx, .int jr])), (mpg, .inl (cI, 36, .inl g))] H := hP
          have hD : va_D A [(M, .inr (9, [.int (nI 0), .ref mtx, .int (nI len), .int (nI pl), .int (nI q5), .int (nI r5), .int pr, .ref mod_, .int (nI n), .ref mne, .ref mro, .int (nI m), .int rrt, .int rfr, .int rpr, .ref mrod, .int (nI rn9), .ref mrne, .ref mrro, .int (nI rm9), .ref mrp, .ref mpg, .ref mbk, .int (nI ac), .ref mke, .ref mik, .int (nI cr), .ref mrw, .ref mrd, .long sd, .ref mtr, .ref mwo, .ref mnx, .int jr])), (mpg, .inl (cI, 36, .inl g))] := hD
          have h_24 : r_23 = zsu (g (7 * i + k)) (g (7 * i + 5)) (g (7 * i + 6)) (nI k) (nI (w % 10)) := h_24
          subst h_24
          refine lv_imul hx hb dX9_reform_109 ?_
          refine z_top (y := (nI (w / 10)) * (zsu (g (7 * i + k)) (g (7 * i + 5)) (g (7 * i + 6)) (nI k) (nI (w % 10)))) rfl ?_
          refine z_top (y := ztax f (nI (w / 10)) (nI (w % 10)) i k) (ztax_g (hpg.1 i (by omega)) hk) ?_
          refine lv_icmp_lt (tgt := 117) hx hb dX9_reform_110 (by decide) (fun c_25 => ?_) (fun c_25 => ?_)
          · have c_25 : (f (20 + i)) < (ztax f (nI (w / 10)) (nI (w % 10)) i k) := c_25
            refine lv_iconst (v := nI 0) hx hb dX9_reform_117 (by decide) ?_
            refine lv_istore (lv' := [(5, .int (nI 0)), (7, .int (nI (7 * i))), (6, .int (nI i)), (4, .int (nI w)), (3, .int l9), (2, .int ((zns f (nI q5) (nI r5) n k w).1)), (0, .ref M), (1, .int (nI k))]) hx hb dX9_reform_118 hl (by decide) rfl (fun ls hl => ?_)
            refine lv_iinc (v := nI (i + 1)) (lv' := [(6, .int (nI (i + 1))), (5, .int (nI 0)), (7, .int (nI (7 * i))), (4, .int (nI w)), (3, .int l9), (2, .int ((zns f (nI q5) (nI r5) n k w).1)), (0, .ref M), (1, .int (nI k))]) hx hb dX9_reform_120 hl (k := 2) rfl (z_inc _ 1) (by decide) rfl (fun ls hl => ?_)
            refine lv_goto (tgt := 37) hx hb dX9_reform_123 (by decide) ?_
            have hl : lv_has ls 8 [(6, .int (nI (i + 1))), (5, .int (nI 0)), (4, .int (nI w)), (3, .int l9), (2, .int ((zns f (nI q5) (nI r5) n k w).1)), (0, .ref M), (1, .int (nI k))] := lv_sub hl [0, 1, 3, 4, 5, 6, 7] rfl
            have e_26 : nI 0 = (if zac f (nI (w / 10)) (nI (w % 10)) k (i + 1) = true then 1 else 0) := by first | exact zac_st (by assumption) (Int32.not_lt.mp (by assumption)) | exact zac_sf (Int32.not_le.mpr (by assumption)) | exact zac_sn (by assumption)
            have hl : lv_has ls 8 [(6, .int (nI (i + 1))), (5, .int (if zac f (nI (w / 10)) (nI (w % 10)) k (i + 1) = true then 1 else 0)), (4, .int (nI w)), (3, .int l9), (2, .int ((zns f (nI q5) (nI r5) n k w).1)), (0, .ref M), (1, .int (nI k))] := Eq.subst (motive := fun zz_ => lv_has ls 8 [(6, .int (nI (i + 1))), (5, .int zz_), (4, .int (nI w)), (3, .int l9), (2, .int ((zns f (nI q5) (nI r5) n k w).1)), (0, .ref M), (1, .int (nI k))]) e_26 hl
            exact ih_8 _ _ _ (by omega) ⟨hP, hD, hS, hl⟩
          · have c_25 : ¬ ((f (20 + i)) < (ztax f (nI (w / 10)) (nI (w % 10)) i k)) := c_25
            refine lv_iconst (v := nI 1) hx hb dX9_reform_113 (by decide) ?_
            refine lv_goto (tgt := 118) hx hb dX9_reform_114 (by decide) ?_
            refine lv_istore (lv' := [(5, .int (nI 1)), (7, .int (nI (7 * i))), (6, .int (nI i)), (4, .int (nI w)), (3, .int l9), (2, .int ((zns f (nI q5) (nI r5) n k w).1)), (0, .ref M), (1, .int (nI k))]) hx hb dX9_reform_118 hl (by decide) rfl (fun ls hl => ?_)
            refine lv_iinc (v := nI (i + 1)) (lv' := [(6, .int (nI (i + 1))), (5, .int (nI 1)), (7, .int (nI (7 * i))), (4, .int (nI w)), (3, .int l9), (2, .int ((zns f (nI q5) (nI r5) n k w).1)), (0, .ref M), (1, .int (nI k))]) hx hb dX9_reform_120 hl (k := 2) rfl (z_inc _ 1) (by decide) rfl (fun ls hl => ?_)
            refine lv_goto (tgt := 37) hx hb dX9_reform_123 (by decide) ?_
            have hl : lv_has ls 8 [(6, .int (nI (i + 1))), (5, .int (nI 1)), (4, .int (nI w)), (3, .int l9), (2, .int ((zns f (nI q5) (nI r5) n k w).1)), (0, .ref M), (1, .int (nI k))] := lv_sub hl [0, 1, 3, 4, 5, 6, 7] rfl
            have e_27 : nI 1 = (if zac f (nI (w / 10)) (nI (w % 10)) k (i + 1) = true then 1 else 0) := by first | exact zac_st (by assumption) (Int32.not_lt.mp (by assumption)) | exact zac_sf (Int32.not_le.mpr (by assumption)) | exact zac_sn (by assumption)
            have hl : lv_has ls 8 [(6, .int (nI (i + 1))), (5, .int (if zac f (nI (w / 10)) (nI (w % 10)) k (i + 1) = true then 1 else 0)), (4, .int (nI w)), (3, .int l9), (2, .int ((zns f (nI q5) (nI r5) n k w).1)), (0, .ref M), (1, .int (nI k))] := Eq.subst (motive := fun zz_ => lv_has ls 8 [(6, .int (nI (i + 1))), (5, .int zz_), (4, .int (nI w)), (3, .int l9), (2, .int ((zns f (nI q5) (nI r5) n k w).1)), (0, .ref M), (1, .int (nI k))]) e_27 hl
            exact ih_8 _ _ _ (by omega) ⟨hP, hD, hS, hl⟩
  · have c_3 := zb1 c_3
    refine lv_bipush (v := -2) hx hb dX9_reform_12 (by decide) ?_
    exact z_iret Z () (by first | rw [zKa_n (by assumption)] | (rw [zKa_y hk, zns_100])) hP hS dX9_reform_14
