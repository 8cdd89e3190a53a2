theorem dX9_declare_0 : decode cX9_declare 0 = .ok (.aload_n 0, 1) := by decide +kernel
theorem dX9_declare_1 : decode cX9_declare 1 = .ok (.iconst 0, 1) := by decide +kernel
theorem dX9_declare_2 : decode cX9_declare 2 = .ok (.putfield 62, 3) := by decide +kernel
theorem dX9_declare_5 : decode cX9_declare 5 = .ok (.aload_n 0, 1) := by decide +kernel
theorem dX9_declare_6 : decode cX9_declare 6 = .ok (.iload_n 1, 1) := by decide +kernel
theorem dX9_declare_7 : decode cX9_declare 7 = .ok (.invokevirtual 147, 3) := by decide +kernel
theorem dX9_declare_10 : decode cX9_declare 10 = .ok (.ifCond .eq 5, 3) := by decide +kernel
theorem dX9_declare_13 : decode cX9_declare 13 = .ok (.iconst (-1), 1) := by decide +kernel
theorem dX9_declare_14 : decode cX9_declare 14 = .ok (.ireturn, 1) := by decide +kernel
theorem dX9_declare_15 : decode cX9_declare 15 = .ok (.iload_n 2, 1) := by decide +kernel
theorem dX9_declare_16 : decode cX9_declare 16 = .ok (.invokestatic 164, 3) := by decide +kernel
theorem dX9_declare_19 : decode cX9_declare 19 = .ok (.ifCond .eq 6, 3) := by decide +kernel
theorem dX9_declare_22 : decode cX9_declare 22 = .ok (.bipush (-2), 2) := by decide +kernel
theorem dX9_declare_24 : decode cX9_declare 24 = .ok (.ireturn, 1) := by decide +kernel
theorem dX9_declare_25 : decode cX9_declare 25 = .ok (.aload_n 0, 1) := by decide +kernel
theorem dX9_declare_26 : decode cX9_declare 26 = .ok (.getfield 34, 3) := by decide +kernel
theorem dX9_declare_29 : decode cX9_declare 29 = .ok (.bipush 7, 2) := by decide +kernel
theorem dX9_declare_31 : decode cX9_declare 31 = .ok (.iload_n 1, 1) := by decide +kernel
theorem dX9_declare_32 : decode cX9_declare 32 = .ok (.imul, 1) := by decide +kernel
theorem dX9_declare_33 : decode cX9_declare 33 = .ok (.iconst 5, 1) := by decide +kernel
theorem dX9_declare_34 : decode cX9_declare 34 = .ok (.iadd, 1) := by decide +kernel
theorem dX9_declare_35 : decode cX9_declare 35 = .ok (.iaload, 1) := by decide +kernel
theorem dX9_declare_36 : decode cX9_declare 36 = .ok (.bipush (-9), 2) := by decide +kernel
theorem dX9_declare_38 : decode cX9_declare 38 = .ok (.if_icmp .eq 6, 3) := by decide +kernel
theorem dX9_declare_41 : decode cX9_declare 41 = .ok (.bipush (-3), 2) := by decide +kernel
theorem dX9_declare_43 : decode cX9_declare 43 = .ok (.ireturn, 1) := by decide +kernel
theorem dX9_declare_44 : decode cX9_declare 44 = .ok (.aload_n 0, 1) := by decide +kernel
theorem dX9_declare_45 : decode cX9_declare 45 = .ok (.invokevirtual 167, 3) := by decide +kernel
theorem dX9_declare_48 : decode cX9_declare 48 = .ok (.aload_n 0, 1) := by decide +kernel
theorem dX9_declare_49 : decode cX9_declare 49 = .ok (.getfield 34, 3) := by decide +kernel
theorem dX9_declare_52 : decode cX9_declare 52 = .ok (.bipush 7, 2) := by decide +kernel
theorem dX9_declare_54 : decode cX9_declare 54 = .ok (.iload_n 1, 1) := by decide +kernel
theorem dX9_declare_55 : decode cX9_declare 55 = .ok (.imul, 1) := by decide +kernel
theorem dX9_declare_56 : decode cX9_declare 56 = .ok (.iconst 5, 1) := by decide +kernel
theorem dX9_declare_57 : decode cX9_declare 57 = .ok (.iadd, 1) := by decide +kernel
theorem dX9_declare_58 : decode cX9_declare 58 = .ok (.iload_n 2, 1) := by decide +kernel
theorem dX9_declare_59 : decode cX9_declare 59 = .ok (.iastore, 1) := by decide +kernel
theorem dX9_declare_60 : decode cX9_declare 60 = .ok (.aload_n 0, 1) := by decide +kernel
theorem dX9_declare_61 : decode cX9_declare 61 = .ok (.getfield 34, 3) := by decide +kernel
theorem dX9_declare_64 : decode cX9_declare 64 = .ok (.bipush 7, 2) := by decide +kernel
theorem dX9_declare_66 : decode cX9_declare 66 = .ok (.iload_n 1, 1) := by decide +kernel
theorem dX9_declare_67 : decode cX9_declare 67 = .ok (.imul, 1) := by decide +kernel
theorem dX9_declare_68 : decode cX9_declare 68 = .ok (.iconst 4, 1) := by decide +kernel
theorem dX9_declare_69 : decode cX9_declare 69 = .ok (.iadd, 1) := by decide +kernel
theorem dX9_declare_70 : decode cX9_declare 70 = .ok (.dup2, 1) := by decide +kernel
theorem dX9_declare_71 : decode cX9_declare 71 = .ok (.iaload, 1) := by decide +kernel
theorem dX9_declare_72 : decode cX9_declare 72 = .ok (.aload_n 0, 1) := by decide +kernel
theorem dX9_declare_73 : decode cX9_declare 73 = .ok (.getfield 131, 3) := by decide +kernel
theorem dX9_declare_76 : decode cX9_declare 76 = .ok (.isub, 1) := by decide +kernel
theorem dX9_declare_77 : decode cX9_declare 77 = .ok (.iastore, 1) := by decide +kernel
theorem dX9_declare_78 : decode cX9_declare 78 = .ok (.ldc 151, 2) := by decide +kernel
theorem dX9_declare_80 : decode cX9_declare 80 = .ok (.aload_n 0, 1) := by decide +kernel
theorem dX9_declare_81 : decode cX9_declare 81 = .ok (.getfield 34, 3) := by decide +kernel
theorem dX9_declare_84 : decode cX9_declare 84 = .ok (.bipush 7, 2) := by decide +kernel
theorem dX9_declare_86 : decode cX9_declare 86 = .ok (.iload_n 1, 1) := by decide +kernel
theorem dX9_declare_87 : decode cX9_declare 87 = .ok (.imul, 1) := by decide +kernel
theorem dX9_declare_88 : decode cX9_declare 88 = .ok (.iconst 4, 1) := by decide +kernel
theorem dX9_declare_89 : decode cX9_declare 89 = .ok (.iadd, 1) := by decide +kernel
theorem dX9_declare_90 : decode cX9_declare 90 = .ok (.iaload, 1) := by decide +kernel
theorem dX9_declare_91 : decode cX9_declare 91 = .ok (.iadd, 1) := by decide +kernel
theorem dX9_declare_92 : decode cX9_declare 92 = .ok (.ireturn, 1) := by decide +kernel
theorem zd_X9_declare : yX9_declare.cls ≠ "java/lang/invoke/MethodHandle" ∧ yX9_declare.cls ≠ "java/lang/invoke/VarHandle" ∧ (parseMethodDescriptor yX9_declare.desc).map (fun d => d.parameters.length) = some 2 := by decide +kernel
set_option maxHeartbeats 4000000 in
set_option maxRecDepth 100000 in
theorem zc_X9_declare (l : Launch) (D : va_G) (cI cZ : ClassId) (M : Nat) (th : Int32) (mtx : Nat) (len : Nat) (pl : Nat) (rt : Int32) (fr : Int32) (pr : Int32) (mod_ : Nat) (n : Nat) (mne : Nat) (mro : Nat) (m : Nat) (rrt : Int32) (rfr : Int32) (rpr : Int32) (mrod : Nat) (rn9 : Nat) (mrne : Nat) (mrro : Nat) (rm9 : Nat) (mrp : Nat) (mpg : Nat) (mbk : Nat) (ac : Nat) (mke : Nat) (mik : Nat) (cr : Nat) (mrw : Nat) (mrd : Nat) (sd : Int64) (mtr : Nat) (mwo : Nat) (mnx : Nat) (jr : Int32) (g : Nat → Int32) (bk : Nat → Int32) (f : Nat → Int32) (x1 : Int32) (x2 : Int32) (hn : n ≤ 5) (hpg : zpr n f g) (hac : ac ≤ 12) : zI l yX9_declare cX9_declare 3 .int 2 46 D cI cZ [.ref M, .int x1, .int x2] [(M, .inr (9, [.int th, .ref mtx, .int (nI len), .int (nI pl), .int rt, .int fr, .int pr, .ref mod_, .int (nI n), .ref mne, .ref mro, .int (nI m), .int rrt, .int rfr, .int rpr, .ref mrod, .int (nI rn9), .ref mrne, .ref mrro, .int (nI rm9), .ref mrp, .ref mpg, .ref mbk, .int (nI ac), .ref mke, .ref mik, .int (nI cr), .ref mrw, .ref mrd, .long sd, .ref mtr, .ref mwo, .ref mnx, .int jr])), (mpg, .inl (cI, 36, .inl g)), (mbk, .inl (cI, 432, .inl bk))] (fun (r : Int32) (u : Unit) => r = zPa n x1 (fun p => zKa x2 (fun k => if f (25 + p) = -9 then f (20 + p) - pr + 100000 else -3) (-2)) (-1)) (fun (u : Unit) => [(M, .inr (9, [.int (nI 0), .ref mtx, .int (nI len), .int (nI pl), .int rt, .int fr, .int pr, .ref mod_, .int (nI n), .ref mne, .ref mro, .int (nI m), .int rrt, .int rfr, .int rpr, .ref mrod, .int (nI rn9), .ref mrne, .ref mrro, .int (nI rm9), .ref mrp, .ref mpg, .ref mbk, .int (nI (zPa n x1 (fun p => zKa x2 (fun k => if f (25 + p) = -9 then zna ac + 1 else ac) ac) ac)), .ref mke, .ref mik, .int (nI cr), .ref mrw, .ref mrd, .long sd, .ref mtr, .ref mwo, .ref mnx, .int jr])), (mpg, .inl (cI, 36, .inl (zPa n x1 (fun p => zKa x2 (fun k => if f (25 + p) = -9 then zmdc g pr p k else g) g) g))), (mbk, .inl (cI, 432, .inl (zPa n x1 (fun p => zKa x2 (fun k => if f (25 + p) = -9 then znote g bk ac else bk) bk) bk)))]) := by
  refine zI_of (by decide) (Nat.le_of_ble_eq_true rfl) ?_
  intro pP eE sS mM aA bB mT cC A ls Z hP hD hS hl
  have hx := Z.1
  have hb := Z.2.1
  have hown := Z.2.2.2.2.2.1
  have hts := Z.2.2.2.2.1
  have Z : zAt pP sS mM aA mT cC D cI cZ A "SurpriseTaxModel" cX9_declare 3 (some .int) := Z
  have hl : lv_has ls 3 [(0, .ref M), (1, .int x1), (2, .int x2)] := hl
  obtain ⟨H, hH⟩ : ∃ H, H = sS.heap := ⟨_, rfl⟩
  have hP : va_P D vwCl [(M, .inr (9, [.int th, .ref mtx, .int (nI len), .int (nI pl), .int rt, .int fr, .int pr, .ref mod_, .int (nI n), .ref mne, .ref mro, .int (nI m), .int rrt, .int rfr, .int rpr, .ref mrod, .int (nI rn9), .ref mrne, .ref mrro, .int (nI rm9), .ref mrp, .ref mpg, .ref mbk, .int (nI ac), .ref mke, .ref mik, .int (nI cr), .ref mrw, .ref mrd, .long sd, .ref mtr, .ref mwo, .ref mnx, .int jr])), (mpg, .inl (cI, 36, .inl g)), (mbk, .inl (cI, 432, .inl bk))] H := by rw [hH]; exact hP
  have hS : va_S A sS.heap H [] := by rw [hH]; exact hS
  rw [← hH]
  clear hH
  obtain ⟨locs, hlo⟩ : ∃ q : List Loc, q = [] := ⟨_, rfl⟩
  rw [← hlo] at hS ⊢
  clear hlo
  refine lv_aload_n hx hb dX9_declare_0 rfl (lv_at hl 0 rfl) ?_
  refine lv_iconst (v := nI 0) hx hb dX9_declare_1 (by decide) ?_
  refine z_put (ci := 9) (v := .int (nI 0)) Z zin9 tyX9 tyX9_ok nmX9 hP hD hS 0 rfl rfl 0 (by decide) zm677 rfl rfl rfl rfl (Nat.le_of_ble_eq_true rfl) dX9_declare_2 (fun H locs hP hD hS => ?_)
  have hP : va_P D vwCl [(M, .inr (9, [.int (nI 0), .ref mtx, .int (nI len), .int (nI pl), .int rt, .int fr, .int pr, .ref mod_, .int (nI n), .ref mne, .ref mro, .int (nI m), .int rrt, .int rfr, .int rpr, .ref mrod, .int (nI rn9), .ref mrne, .ref mrro, .int (nI rm9), .ref mrp, .ref mpg, .ref mbk, .int (nI ac), .ref mke, .ref mik, .int (nI cr), .ref mrw, .ref mrd, .long sd, .ref mtr, .ref mwo, .ref mnx, .int jr])), (mpg, .inl (cI, 36, .inl g)), (mbk, .inl (cI, 432, .inl bk))] H := hP
  have hD : va_D A [(M, .inr (9, [.int (nI 0), .ref mtx, .int (nI len), .int (nI pl), .int rt, .int fr, .int pr, .ref mod_, .int (nI n), .ref mne, .ref mro, .int (nI m), .int rrt, .int rfr, .int rpr, .ref mrod, .int (nI rn9), .ref mrne, .ref mrro, .int (nI rm9), .ref mrp, .ref mpg, .ref mbk, .int (nI ac), .ref mke, .ref mik, .int (nI cr), .ref mrw, .ref mrd, .long sd, .ref mtr, .ref mwo, .ref mnx, .int jr])), (mpg, .inl (cI, 36, .inl g)), (mbk, .inl (cI, 432, .inl bk))] := hD
  refine lv_aload_n hx hb dX9_declare_5 rfl (lv_at hl 0 rfl) ?_
  refine lv_iload_n hx hb dX9_declare_6 rfl (lv_at hl 1 rfl) ?_
  refine z_callVi (As := [.int x1]) (rest := []) (ci := 9) (k0 := 0) Z hP hD hS hl.1 (zc_X9_noOne l D cI cZ M (nI 0) mtx len pl rt fr pr mod_ n mne mro m rrt rfr rpr mrod rn9 mrne mrro rm9 mrp mpg mbk ac mke mik cr mrw mrd sd mtr mwo mnx jr x1 (by omega)) zm797 zm798 zm19 zm39 zm799 ⟨rfl, zd_X9_noOne⟩ ⟨Nat.le_of_ble_eq_true rfl, Nat.le_of_ble_eq_true rfl⟩ ⟨Nat.zero_le _, Nat.zero_le _⟩ [0] rfl (by decide) rfl rfl rfl (fun _ => rfl) rfl (Nat.le_of_ble_eq_true rfl) rfl dX9_declare_7 (fun r_1 u H locs h_2 hP hD hS => ?_)
  have hP : va_P D vwCl [(M, .inr (9, [.int (nI 0), .ref mtx, .int (nI len), .int (nI pl), .int rt, .int fr, .int pr, .ref mod_, .int (nI n), .ref mne, .ref mro, .int (nI m), .int rrt, .int rfr, .int rpr, .ref mrod, .int (nI rn9), .ref mrne, .ref mrro, .int (nI rm9), .ref mrp, .ref mpg, .ref mbk, .int (nI ac), .ref mke, .ref mik, .int (nI cr), .ref mrw, .ref mrd, .long sd, .ref mtr, .ref mwo, .ref mnx, .int jr])), (mpg, .inl (cI, 36, .inl g)), (mbk, .inl (cI, 432, .inl bk))] H := hP
  have hD : va_D A [(M, .inr (9, [.int (nI 0), .ref mtx, .int (nI len), .int (nI pl), .int rt, .int fr, .int pr, .ref mod_, .int (nI n), .ref mne, .ref mro, .int (nI m), .int rrt, .int rfr, .int rpr, .ref mrod, .int (nI rn9), .ref mrne, .ref mrro, .int (nI rm9), .ref mrp, .ref mpg, .ref mbk, .int (nI ac), .ref mke, .ref mik, .int (nI cr), .ref mrw, .ref mrd, .long sd, .ref mtr, .ref mwo, .ref mnx, .int jr])), (mpg, .inl (cI, 36, .inl g)), (mbk, .inl (cI, 432, .inl bk))] := hD
  have h_2 : r_1 = if ¬ zhas n x1 then 1 else 0 := h_2
  subst h_2
  refine lv_if_eq (tgt := 15) hx hb dX9_declare_10 (by decide) (fun c_3 => ?_) (fun c_3 => ?_)
  · have c_3 := zb0 c_3
    have hzz := Classical.not_not.mp c_3
    obtain ⟨p, hp, rfl⟩ := zhas_of (by omega) hzz
    have hp1 := hpg.1 p hp
    refine lv_iload_n hx hb dX9_declare_15 rfl (lv_at hl 2 rfl) ?_
    refine z_callSi (As := [.int x2]) (rest := []) Z hP hD hS hl.1 (zc_X9_noKind l D cI cZ x2 ) zm806 zm807 zm39 zm808 zd_X9_noKind ⟨Nat.le_of_ble_eq_true rfl, Nat.le_of_ble_eq_true rfl⟩ ⟨Nat.zero_le _, Nat.zero_le _⟩ [] rfl (by decide) (fun _ => rfl) rfl (Nat.le_of_ble_eq_true rfl) rfl dX9_declare_16 (fun r_4 u H locs h_5 hP hD hS => ?_)
    have hP : va_P D vwCl [(M, .inr (9, [.int (nI 0), .ref mtx, .int (nI len), .int (nI pl), .int rt, .int fr, .int pr, .ref mod_, .int (nI n), .ref mne, .ref mro, .int (nI m), .int rrt, .int rfr, .int rpr, .ref mrod, .int (nI rn9), .ref mrne, .ref mrro, .int (nI rm9), .ref mrp, .ref mpg, .ref mbk, .int (nI ac), .ref mke, .ref mik, .int (nI cr), .ref mrw, .ref mrd, .long sd, .ref mtr, .ref mwo, .ref mnx, .int jr])), (mpg, .inl (cI, 36, .inl g)), (mbk, .inl (cI, 432, .inl bk))] H := hP
    have hD : va_D A [(M, .inr (9, [.int (nI 0), .ref mtx, .int (nI len), .int (nI pl), .int rt, .int fr, .int pr, .ref mod_, .int (nI n), .ref mne, .ref mro, .int (nI m), .int rrt, .int rfr, .int rpr, .ref mrod, .int (nI rn9), .ref mrne, .ref mrro, .int (nI rm9), .ref mrp, .ref mpg, .ref mbk, .int (nI ac), .ref mke, .ref mik, .int (nI cr), .ref mrw, .ref mrd, .long sd, .ref mtr, .ref mwo, .ref mnx, .int jr])), (mpg, .inl (cI, 36, .inl g)), (mbk, .inl (cI, 432, .inl bk))] := hD
    have h_5 : r_4 = if ¬ zkind x2 then 1 else 0 := h_5
    subst h_5
    refine lv_if_eq (tgt := 25) hx hb dX9_declare_19 (by decide) (fun c_6 => ?_) (fun c_6 => ?_)
    · have c_6 := zb0 c_6
      have hzk := Classical.not_not.mp c_6
      obtain ⟨k, hk, rfl⟩ := zkind_of hzk
      refine lv_aload_n hx hb dX9_declare_25 rfl (lv_at hl 0 rfl) ?_
      refine z_get (ci := 9) (v := .ref mpg) Z zin9 hP 0 rfl rfl 21 (by decide) zm698 rfl rfl dX9_declare_26 ?_
      refine lv_bipush (v := nI 7) hx hb dX9_declare_29 (by decide) ?_
      refine lv_iload_n hx hb dX9_declare_31 rfl (lv_at hl 1 rfl) ?_
      refine lv_imul hx hb dX9_declare_32 ?_
      refine z_top (y := nI (7 * p)) (z_mul _ _) ?_
      refine lv_iconst (v := nI 5) hx hb dX9_declare_33 (by decide) ?_
      refine lv_iadd hx hb dX9_declare_34 ?_
      refine z_top (y := nI (7 * p + 5)) (z_add _ _) ?_
      refine z_iald (n := 36) (f := g) (j := 7 * p + 5) Z hP 1 rfl (by omega) (by decide) dX9_declare_35 ?_
      refine z_top (y := f (25 + p)) (hp1.2.2.1) ?_
      refine lv_bipush (v := -9) hx hb dX9_declare_36 (by decide) ?_
      refine lv_icmp_eq (tgt := 44) hx hb dX9_declare_38 (by decide) (fun c_7 => ?_) (fun c_7 => ?_)
      · have c_7 : (f (25 + p)) = (-9) := c_7
        refine lv_aload_n hx hb dX9_declare_44 rfl (lv_at hl 0 rfl) ?_
        refine z_callVv (As := []) (rest := []) (ci := 9) (k0 := 0) Z hP hD hS hl.1 (zc_X9_note l D cI cZ M (nI 0) mtx len pl rt fr pr mod_ n mne mro m rrt rfr rpr mrod rn9 mrne mrro rm9 mrp mpg mbk ac mke mik cr mrw mrd sd mtr mwo mnx jr g bk (by omega)) zm809 zm810 zm20 zm39 zm811 ⟨rfl, zd_X9_note⟩ ⟨Nat.le_of_ble_eq_true rfl, Nat.le_of_ble_eq_true rfl⟩ ⟨Nat.zero_le _, Nat.zero_le _⟩ [0, 1, 2] rfl (by decide) rfl rfl rfl (fun _ => rfl) rfl (Nat.le_of_ble_eq_true rfl) rfl dX9_declare_45 (fun u H locs h_9 hP hD hS => ?_)
        have hP : va_P D vwCl [(M, .inr (9, [.int (nI 0), .ref mtx, .int (nI len), .int (nI pl), .int rt, .int fr, .int pr, .ref mod_, .int (nI n), .ref mne, .ref mro, .int (nI m), .int rrt, .int rfr, .int rpr, .ref mrod, .int (nI rn9), .ref mrne, .ref mrro, .int (nI rm9), .ref mrp, .ref mpg, .ref mbk, .int (nI (zna ac + 1)), .ref mke, .ref mik, .int (nI cr), .ref mrw, .ref mrd, .long sd, .ref mtr, .ref mwo, .ref mnx, .int jr])), (mpg, .inl (cI, 36, .inl g)), (mbk, .inl (cI, 432, .inl (znote g bk ac)))] H := hP
        have hD : va_D A [(M, .inr (9, [.int (nI 0), .ref mtx, .int (nI len), .int (nI pl), .int rt, .int fr, .int pr, .ref mod_, .int (nI n), .ref mne, .ref mro, .int (nI m), .int rrt, .int rfr, .int rpr, .ref mrod, .int (nI rn9), .ref mrne, .ref mrro, .int (nI rm9), .ref mrp, .ref mpg, .ref mbk, .int (nI (zna ac + 1)), .ref mke, .ref mik, .int (nI cr), .ref mrw, .ref mrd, .long sd, .ref mtr, .ref mwo, .ref mnx, .int jr])), (mpg, .inl (cI, 36, .inl g)), (mbk, .inl (cI, 432, .inl (znote g bk ac)))] := hD
        refine lv_aload_n hx hb dX9_declare_48 rfl (lv_at hl 0 rfl) ?_
        refine z_get (ci := 9) (v := .ref mpg) Z zin9 hP 0 rfl rfl 21 (by decide) zm698 rfl rfl dX9_declare_49 ?_
        refine lv_bipush (v := nI 7) hx hb dX9_declare_52 (by decide) ?_
        refine lv_iload_n hx hb dX9_declare_54 rfl (lv_at hl 1 rfl) ?_
        refine lv_imul hx hb dX9_declare_55 ?_
        refine z_top (y := nI (7 * p)) (z_mul _ _) ?_
        refine lv_iconst (v := nI 5) hx hb dX9_declare_56 (by decide) ?_
        refine lv_iadd hx hb dX9_declare_57 ?_
        refine z_top (y := nI (7 * p + 5)) (z_add _ _) ?_
        refine lv_iload_n hx hb dX9_declare_58 rfl (lv_at hl 2 rfl) ?_
        refine z_iast (n := 36) (f := g) (j := 7 * p + 5) (x := nI k) Z hP hD hS 1 rfl (by omega) (by decide) dX9_declare_59 (fun H locs hP hD hS => ?_)
        have hP : va_P D vwCl [(M, .inr (9, [.int (nI 0), .ref mtx, .int (nI len), .int (nI pl), .int rt, .int fr, .int pr, .ref mod_, .int (nI n), .ref mne, .ref mro, .int (nI m), .int rrt, .int rfr, .int rpr, .ref mrod, .int (nI rn9), .ref mrne, .ref mrro, .int (nI rm9), .ref mrp, .ref mpg, .ref mbk, .int (nI (zna ac + 1)), .ref mke, .ref mik, .int (nI cr), .ref mrw, .ref mrd, .long sd, .ref mtr, .ref mwo, .ref mnx, .int jr])), (mpg, .inl (cI, 36, .inl (upd g (7 * p + 5) (nI k)))), (mbk, .inl (cI, 432, .inl (znote g bk ac)))] H := hP
        have hD : va_D A [(M, .inr (9, [.int (nI 0), .ref mtx, .int (nI len), .int (nI pl), .int rt, .int fr, .int pr, .ref mod_, .int (nI n), .ref mne, .ref mro, .int (nI m), .int rrt, .int rfr, .int rpr, .ref mrod, .int (nI rn9), .ref mrne, .ref mrro, .int (nI rm9), .ref mrp, .ref mpg, .ref mbk, .int (nI (zna ac + 1)), .ref mke, .ref mik, .int (nI cr), .ref mrw, .ref mrd, .long sd, .ref mtr, .ref mwo, .ref mnx, .int jr])), (mpg, .inl (cI, 36, .inl (upd g (7 * p + 5) (nI k)))), (mbk, .inl (cI, 432, .inl (znote g bk ac)))] := hD
        refine lv_aload_n hx hb dX9_declare_60 rfl (lv_at hl 0 rfl) ?_
        refine z_get (ci := 9) (v := .ref mpg) Z zin9 hP 0 rfl rfl 21 (by decide) zm698 rfl rfl dX9_declare_61 ?_
        refine lv_bipush (v := nI 7) hx hb dX9_declare_64 (by decide) ?_
        refine lv_iload_n hx hb dX9_declare_66 rfl (lv_at hl 1 rfl) ?_
        refine lv_imul hx hb dX9_declare_67 ?_
        refine z_top (y := nI (7 * p)) (z_mul _ _) ?_
        refine lv_iconst (v := nI 4) hx hb dX9_declare_68 (by decide) ?_
        refine lv_iadd hx hb dX9_declare_69 ?_
        refine z_top (y := nI (7 * p + 4)) (z_add _ _) ?_
        refine lv_dup2_11 hx hb dX9_declare_70 rfl rfl ?_
        refine z_iald (n := 36) (f := upd g (7 * p + 5) (nI k)) (j := 7 * p + 4) Z hP 1 rfl (by omega) (by decide) dX9_declare_71 ?_
        refine lv_aload_n hx hb dX9_declare_72 rfl (lv_at hl 0 rfl) ?_
        refine z_get (ci := 9) (v := .int pr) Z zin9 hP 0 rfl rfl 6 (by decide) zm683 rfl rfl dX9_declare_73 ?_
        refine lv_isub hx hb dX9_declare_76 ?_
        refine z_top (y := ((upd g (7 * p + 5) (nI k)) (7 * p + 4)) - pr) rfl ?_
        refine z_iast (n := 36) (f := upd g (7 * p + 5) (nI k)) (j := 7 * p + 4) (x := ((upd g (7 * p + 5) (nI k)) (7 * p + 4)) - pr) Z hP hD hS 1 rfl (by omega) (by decide) dX9_declare_77 (fun H locs hP hD hS => ?_)
        have hP : va_P D vwCl [(M, .inr (9, [.int (nI 0), .ref mtx, .int (nI len), .int (nI pl), .int rt, .int fr, .int pr, .ref mod_, .int (nI n), .ref mne, .ref mro, .int (nI m), .int rrt, .int rfr, .int rpr, .ref mrod, .int (nI rn9), .ref mrne, .ref mrro, .int (nI rm9), .ref mrp, .ref mpg, .ref mbk, .int (nI (zna ac + 1)), .ref mke, .ref mik, .int (nI cr), .ref mrw, .ref mrd, .long sd, .ref mtr, .ref mwo, .ref mnx, .int jr])), (mpg, .inl (cI, 36, .inl (upd (upd g (7 * p + 5) (nI k)) (7 * p + 4) (((upd g (7 * p + 5) (nI k)) (7 * p + 4)) - pr)))), (mbk, .inl (cI, 432, .inl (znote g bk ac)))] H := hP
        have hD : va_D A [(M, .inr (9, [.int (nI 0), .ref mtx, .int (nI len), .int (nI pl), .int rt, .int fr, .int pr, .ref mod_, .int (nI n), .ref mne, .ref mro, .int (nI m), .int rrt, .int rfr, .int rpr, .ref mrod, .int (nI rn9), .ref mrne, .ref mrro, .int (nI rm9), .ref mrp, .ref mpg, .ref mbk, .int (nI (zna ac + 1)), .ref mke, .ref mik, .int (nI cr), .ref mrw, .ref mrd, .long sd, .ref mtr, .ref mwo, .ref mnx, .int jr])), (mpg, .inl (cI, 36, .inl (upd (upd g (7 * p + 5) (nI k)) (7 * p + 4) (((upd g (7 * p + 5) (nI k)) (7 * p + 4)) - pr)))), (mbk, .inl (cI, 432, .inl (znote g bk ac)))] := hD
        refine lv_ldc (v := 100000) hx hb hown (hts _ zm801) dX9_declare_78 ?_
        refine lv_aload_n hx hb dX9_declare_80 rfl (lv_at hl 0 rfl) ?_
        refine z_get (ci := 9) (v := .ref mpg) Z zin9 hP 0 rfl rfl 21 (by decide) zm698 rfl rfl dX9_declare_81 ?_
        refine lv_bipush (v := nI 7) hx hb dX9_declare_84 (by decide) ?_
        refine lv_iload_n hx hb dX9_declare_86 rfl (lv_at hl 1 rfl) ?_
        refine lv_imul hx hb dX9_declare_87 ?_
        refine z_top (y := nI (7 * p)) (z_mul _ _) ?_
        refine lv_iconst (v := nI 4) hx hb dX9_declare_88 (by decide) ?_
        refine lv_iadd hx hb dX9_declare_89 ?_
        refine z_top (y := nI (7 * p + 4)) (z_add _ _) ?_
        refine z_iald (n := 36) (f := upd (upd g (7 * p + 5) (nI k)) (7 * p + 4) (((upd g (7 * p + 5) (nI k)) (7 * p + 4)) - pr)) (j := 7 * p + 4) Z hP 1 rfl (by omega) (by decide) dX9_declare_90 ?_
        refine lv_iadd hx hb dX9_declare_91 ?_
        refine z_top (y := 100000 + ((upd (upd g (7 * p + 5) (nI k)) (7 * p + 4) (((upd g (7 * p + 5) (nI k)) (7 * p + 4)) - pr)) (7 * p + 4))) rfl ?_
        have e_10 : nI (zna ac + 1) = nI (zPa n (nI p) (fun p => zKa (nI k) (fun k => if f (25 + p) = -9 then zna ac + 1 else ac) ac) ac) := by first | (rw [zPa_y hp hn, zKa_y hk, if_pos (by assumption)]; exact zmdc_c hp1) | (rw [zPa_y hp hn, zKa_y hk, if_pos (by assumption)]; done) | (rw [zPa_y hp hn, zKa_y hk, if_pos (by assumption)]; rfl)  | rw [zPa_n (by assumption)] | rw [zPa_y hp hn, zKa_n (by assumption)] | rw [zPa_y hp hn, zKa_y hk, if_pos (by assumption)] | rw [zPa_y hp hn, zKa_y hk, if_neg (by assumption)] | rw [zPa_y hp hn, zKa_y hk] | rw [zPa_y hp hn, if_pos (by assumption)] | rw [zPa_y hp hn, if_neg (by assumption)] | rw [zPa_y hp hn] | rfl
        have hP : va_P D vwCl [(M, .inr (9, [.int (nI 0), .ref mtx, .int (nI len), .int (nI pl), .int rt, .int fr, .int pr, .ref mod_, .int (nI n), .ref mne, .ref mro, .int (nI m), .int rrt, .int rfr, .int rpr, .ref mrod, .int (nI rn9), .ref mrne, .ref mrro, .int (nI rm9), .ref mrp, .ref mpg, .ref mbk, .int (nI (zPa n (nI p) (fun p => zKa (nI k) (fun k => if f (25 + p) = -9 then zna ac + 1 else ac) ac) ac)), .ref mke, .ref mik, .int (nI cr), .ref mrw, .ref mrd, .long sd, .ref mtr, .ref mwo, .ref mnx, .int jr])), (mpg, .inl (cI, 36, .inl (upd (upd g (7 * p + 5) (nI k)) (7 * p + 4) (((upd g (7 * p + 5) (nI k)) (7 * p + 4)) - pr)))), (mbk, .inl (cI, 432, .inl (znote g bk ac)))] H := Eq.subst (motive := fun zz_ => va_P D vwCl [(M, .inr (9, [.int (nI 0), .ref mtx, .int (nI len), .int (nI pl), .int rt, .int fr, .int pr, .ref mod_, .int (nI n), .ref mne, .ref mro, .int (nI m), .int rrt, .int rfr, .int rpr, .ref mrod, .int (nI rn9), .ref mrne, .ref mrro, .int (nI rm9), .ref mrp, .ref mpg, .ref mbk, .int zz_, .ref mke, .ref mik, .int (nI cr), .ref mrw, .ref mrd, .long sd, .ref mtr, .ref mwo, .ref mnx, .int jr])), (mpg, .inl (cI, 36, .inl (upd (upd g (7 * p + 5) (nI k)) (7 * p + 4) (((upd g (7 * p + 5) (nI k)) (7 * p + 4)) - pr)))), (mbk, .inl (cI, 432, .inl (znote g bk ac)))] H) e_10 hP
        have e_11 : upd (upd g (7 * p + 5) (nI k)) (7 * p + 4) (((upd g (7 * p + 5) (nI k)) (7 * p + 4)) - pr) = (zPa n (nI p) (fun p => zKa (nI k) (fun k => if f (25 + p) = -9 then zmdc g pr p k else g) g) g) := by first | (rw [zPa_y hp hn, zKa_y hk, if_pos (by assumption)]; exact zmdc_c hp1) | (rw [zPa_y hp hn, zKa_y hk, if_pos (by assumption)]; done) | (rw [zPa_y hp hn, zKa_y hk, if_pos (by assumption)]; rfl)  | rw [zPa_n (by assumption)] | rw [zPa_y hp hn, zKa_n (by assumption)] | rw [zPa_y hp hn, zKa_y hk, if_pos (by assumption)] | rw [zPa_y hp hn, zKa_y hk, if_neg (by assumption)] | rw [zPa_y hp hn, zKa_y hk] | rw [zPa_y hp hn, if_pos (by assumption)] | rw [zPa_y hp hn, if_neg (by assumption)] | rw [zPa_y hp hn] | rfl
        have hP : va_P D vwCl [(M, .inr (9, [.int (nI 0), .ref mtx, .int (nI len), .int (nI pl), .int rt, .int fr, .int pr, .ref mod_, .int (nI n), .ref mne, .ref mro, .int (nI m), .int rrt, .int rfr, .int rpr, .ref mrod, .int (nI rn9), .ref mrne, .ref mrro, .int (nI rm9), .ref mrp, .ref mpg, .ref mbk, .int (nI (zPa n (nI p) (fun p => zKa (nI k) (fun k => if f (25 + p) = -9 then zna ac + 1 else ac) ac) ac)), .ref mke, .ref mik, .int (nI cr), .ref mrw, .ref mrd, .long sd, .ref mtr, .ref mwo, .ref mnx, .int jr])), (mpg, .inl (cI, 36, .inl (zPa n (nI p) (fun p => zKa (nI k) (fun k => if f (25 + p) = -9 then zmdc g pr p k else g) g) g))), (mbk, .inl (cI, 432, .inl (znote g bk ac)))] H := Eq.subst (motive := fun zz_ => va_P D vwCl [(M, .inr (9, [.int (nI 0), .ref mtx, .int (nI len), .int (nI pl), .int rt, .int fr, .int pr, .ref mod_, .int (nI n), .ref mne, .ref mro, .int (nI m), .int rrt, .int rfr, .int rpr, .ref mrod, .int (nI rn9), .ref mrne, .ref mrro, .int (nI rm9), .ref mrp, .ref mpg, .ref mbk, .int (nI (zPa n (nI p) (fun p => zKa (nI k) (fun k => if f (25 + p) = -9 then zna ac + 1 else ac) ac) ac)), .ref mke, .ref mik, .int (nI cr), .ref mrw, .ref mrd, .long sd, .ref mtr, .ref mwo, .ref mnx, .int jr])), (mpg, .inl (cI, 36, .inl zz_)), (mbk, .inl (cI, 432, .inl (znote g bk ac)))] H) e_11 hP
        have e_12 : znote g bk ac = (zPa n (nI p) (fun p => zKa (nI k) (fun k => if f (25 + p) = -9 then znote g bk ac else bk) bk) bk) := by first | (rw [zPa_y hp hn, zKa_y hk, if_pos (by assumption)]; exact zmdc_c hp1) | (rw [zPa_y hp hn, zKa_y hk, if_pos (by assumption)]; done) | (rw [zPa_y hp hn, zKa_y hk, if_pos (by assumption)]; rfl)  | rw [zPa_n (by assumption)] | rw [zPa_y hp hn, zKa_n (by assumption)] | rw [zPa_y hp hn, zKa_y hk, if_pos (by assumption)] | rw [zPa_y hp hn, zKa_y hk, if_neg (by assumption)] | rw [zPa_y hp hn, zKa_y hk] | rw [zPa_y hp hn, if_pos (by assumption)] | rw [zPa_y hp hn, if_neg (by assumption)] | rw [zPa_y hp hn] | rfl
        have hP : va_P D vwCl [(M, .inr (9, [.int (nI 0), .ref mtx, .int (nI len), .int (nI pl), .int rt, .int fr, .int pr, .ref mod_, .int (nI n), .ref mne, .ref mro, .int (nI m), .int rrt, .int rfr, .int rpr, .ref mrod, .int (nI rn9), .ref mrne, .ref mrro, .int (nI rm9), .ref mrp, .ref mpg, .ref mbk, .int (nI (zPa n (nI p) (fun p => zKa (nI k) (fun k => if f (25 + p) = -9 then zna ac + 1 else ac) ac) ac)), .ref mke, .ref mik, .int (nI cr), .ref mrw, .ref mrd, .long sd, .ref mtr, .ref mwo, .ref mnx, .int jr])), (mpg, .inl (cI, 36, .inl (zPa n (nI p) (fun p => zKa (nI k) (fun k => if f (25 + p) = -9 then zmdc g pr p k else g) g) g))), (mbk, .inl (cI, 432, .inl (zPa n (nI p) (fun p => zKa (nI k) (fun k => if f (25 + p) = -9 then znote g bk ac else bk) bk) bk)))] H := Eq.subst (motive := fun zz_ => va_P D vwCl [(M, .inr (9, [.int (nI 0), .ref mtx, .int (nI len), .int (nI pl), .int rt, .int fr, .int pr, .ref mod_, .int (nI n), .ref mne, .ref mro, .int (nI m), .int rrt, .int rfr, .int rpr, .ref mrod, .int (nI rn9), .ref mrne, .ref mrro, .int (nI rm9), .ref mrp, .ref mpg, .ref mbk, .int (nI (zPa n (nI p) (fun p => zKa (nI k) (fun k => if f (25 + p) = -9 then zna ac + 1 else ac) ac) ac)), .ref mke, .ref mik, .int (nI cr), .ref mrw, .ref mrd, .long sd, .ref mtr, .ref mwo, .ref mnx, .int jr])), (mpg, .inl (cI, 36, .inl (zPa n (nI p) (fun p => zKa (nI k) (fun k => if f (25 + p) = -9 then zmdc g pr p k else g) g) g))), (mbk, .inl (cI, 432, .inl zz_))] H) e_12 hP
        have hD : va_D A [(M, .inr (9, [.int (nI 0), .ref mtx, .int (nI len), .int (nI pl), .int rt, .int fr, .int pr, .ref mod_, .int (nI n), .ref mne, .ref mro, .int (nI m), .int rrt, .int rfr, .int rpr, .ref mrod, .int (nI rn9), .ref mrne, .ref mrro, .int (nI rm9), .ref mrp, .ref mpg, .ref mbk, .int (nI (zPa n (nI p) (fun p => zKa (nI k) (fun k => if f (25 + p) = -9 then zna ac + 1 else ac) ac) ac)), .ref mke, .ref mik, .int (nI cr), .ref mrw, .ref mrd, .long sd, .ref mtr, .ref mwo, .ref mnx, .int jr])), (mpg, .inl (cI, 36, .inl (zPa n (nI p) (fun p => zKa (nI k) (fun k => if f (25 + p) = -9 then zmdc g pr p k else g) g) g))), (mbk, .inl (cI, 432, .inl (zPa n (nI p) (fun p => zKa (nI k) (fun k => if f (25 + p) = -9 then znote g bk ac else bk) bk) bk)))] := zD_of hD rfl
        exact z_iret Z () (by first | (rw [zPa_y hp hn, zKa_y hk, if_pos (by assumption)]; exact zmdc_c hp1) | (rw [zPa_y hp hn, zKa_y hk, if_pos (by assumption)]; done) | (rw [zPa_y hp hn, zKa_y hk, if_pos (by assumption)]; rfl)  | rw [zPa_n (by assumption)] | rw [zPa_y hp hn, zKa_n (by assumption)] | rw [zPa_y hp hn, zKa_y hk, if_pos (by assumption)] | rw [zPa_y hp hn, zKa_y hk, if_neg (by assumption)] | rw [zPa_y hp hn, zKa_y hk] | rw [zPa_y hp hn, if_pos (by assumption)] | rw [zPa_y hp hn, if_neg (by assumption)] | rw [zPa_y hp hn] | rfl) hP hS dX9_declare_92
      · have c_7 : ¬ ((f (25 + p)) = (-9)) := c_7
        refine lv_bipush (v := -3) hx hb dX9_declare_41 (by decide) ?_
        have e_13 : nI ac = nI (zPa n (nI p) (fun p => zKa (nI k) (fun k => if f (25 + p) = -9 then zna ac + 1 else ac) ac) ac) := by first | (rw [zPa_y hp hn, zKa_y hk, if_pos (by assumption)]; exact zmdc_c hp1) | (rw [zPa_y hp hn, zKa_y hk, if_pos (by assumption)]; done) | (rw [zPa_y hp hn, zKa_y hk, if_pos (by assumption)]; rfl)  | rw [zPa_n (by assumption)] | rw [zPa_y hp hn, zKa_n (by assumption)] | rw [zPa_y hp hn, zKa_y hk, if_pos (by assumption)] | rw [zPa_y hp hn, zKa_y hk, if_neg (by assumption)] | rw [zPa_y hp hn, zKa_y hk] | rw [zPa_y hp hn, if_pos (by assumption)] | rw [zPa_y hp hn, if_neg (by assumption)] | rw [zPa_y hp hn] | rfl
        have hP : va_P D vwCl [(M, .inr (9, [.int (nI 0), .ref mtx, .int (nI len), .int (nI pl), .int rt, .int fr, .int pr, .ref mod_, .int (nI n), .ref mne, .ref mro, .int (nI m), .int rrt, .int rfr, .int rpr, .ref mrod, .int (nI rn9), .ref mrne, .ref mrro, .int (nI rm9), .ref mrp, .ref mpg, .ref mbk, .int (nI (zPa n (nI p) (fun p => zKa (nI k) (fun k => if f (25 + p) = -9 then zna ac + 1 else ac) ac) ac)), .ref mke, .ref mik, .int (nI cr), .ref mrw, .ref mrd, .long sd, .ref mtr, .ref mwo, .ref mnx, .int jr])), (mpg, .inl (cI, 36, .inl g)), (mbk, .inl (cI, 432, .inl bk))] H := Eq.subst (motive := fun zz_ => va_P D vwCl [(M, .inr (9, [.int (nI 0), .ref mtx, .int (nI len), .int (nI pl), .int rt, .int fr, .int pr, .ref mod_, .int (nI n), .ref mne, .ref mro, .int (nI m), .int rrt, .int rfr, .int rpr, .ref mrod, .int (nI rn9), .ref mrne, .ref mrro, .int (nI rm9), .ref mrp, .ref mpg, .ref mbk, .int zz_, .ref mke, .ref mik, .int (nI cr), .ref mrw, .ref mrd, .long sd, .ref mtr, .ref mwo, .ref mnx, .int jr])), (mpg, .inl (cI, 36, .inl g)), (mbk, .inl (cI, 432, .inl bk))] H) e_13 hP
        have e_14 : g = (zPa n (nI p) (fun p => zKa (nI k) (fun k => if f (25 + p) = -9 then zmdc g pr p k else g) g) g) := by first | (rw [zPa_y hp hn, zKa_y hk, if_pos (by assumption)]; exact zmdc_c hp1) | (rw [zPa_y hp hn, zKa_y hk, if_pos (by assumption)]; done) | (rw [zPa_y hp hn, zKa_y hk, if_pos (by assumption)]; rfl)  | rw [zPa_n (by assumption)] | rw [zPa_y hp hn, zKa_n (by assumption)] | rw [zPa_y hp hn, zKa_y hk, if_pos (by assumption)] | rw [zPa_y hp hn, zKa_y hk, if_neg (by assumption)] | rw [zPa_y hp hn, zKa_y hk] | rw [zPa_y hp hn, if_pos (by assumption)] | rw [zPa_y hp hn, if_neg (by assumption)] | rw [zPa_y hp hn] | rfl
        have hP : va_P D vwCl [(M, .inr (9, [.int (nI 0), .ref mtx, .int (nI len), .int (nI pl), .int rt, .int fr, .int pr, .ref mod_, .int (nI n), .ref mne, .ref mro, .int (nI m), .int rrt, .int rfr, .int rpr, .ref mrod, .int (nI rn9), .ref mrne, .ref mrro, .int (nI rm9), .ref mrp, .ref mpg, .ref mbk, .int (nI (zPa n (nI p) (fun p => zKa (nI k) (fun k => if f (25 + p) = -9 then zna ac + 1 else ac) ac) ac)), .ref mke, .ref mik, .int (nI cr), .ref mrw, .ref mrd, .long sd, .ref mtr, .ref mwo, .ref mnx, .int jr])), (mpg, .inl (cI, 36, .inl (zPa n (nI p) (fun p => zKa (nI k) (fun k => if f (25 + p) = -9 then zmdc g pr p k else g) g) g))), (mbk, .inl (cI, 432, .inl bk))] H := Eq.subst (motive := fun zz_ => va_P D vwCl [(M, .inr (9, [.int (nI 0), .ref mtx, .int (nI len), .int (nI pl), .int rt, .int fr, .int pr, .ref mod_, .int (nI n), .ref mne, .ref mro, .int (nI m), .int rrt, .int rfr, .int rpr, .ref mrod, .int (nI rn9), .ref mrne, .ref mrro, .int (nI rm9), .ref mrp, .ref mpg, .ref mbk, .int (nI (zPa n (nI p) (fun p => zKa (nI k) (fun k => if f (25 + p) = -9 then zna ac + 1 else ac) ac) ac)), .ref mke, .ref mik, .int (nI cr), .ref mrw, .ref mrd, .long sd, .ref mtr, .ref mwo, .ref mnx, .int jr])), (mpg, .inl (cI, 36, .inl zz_)), (mbk, .inl (cI, 432, .inl bk))] H) e_14 hP
        have e_15 : bk = (zPa n (nI p) (fun p => zKa (nI k) (fun k => if f (25 + p) = -9 then znote g bk ac else bk) bk) bk) := by first | (rw [zPa_y hp hn, zKa_y hk, if_pos (by assumption)]; exact zmdc_c hp1) | (rw [zPa_y hp hn, zKa_y hk, if_pos (by assumption)]; done) | (rw [zPa_y hp hn, zKa_y hk, if_pos (by assumption)]; rfl)  | rw [zPa_n (by assumption)] | rw [zPa_y hp hn, zKa_n (by assumption)] | rw [zPa_y hp hn, zKa_y hk, if_pos (by assumption)] | rw [zPa_y hp hn, zKa_y hk, if_neg (by assumption)] | rw [zPa_y hp hn, zKa_y hk] | rw [zPa_y hp hn, if_pos (by assumption)] | rw [zPa_y hp hn, if_neg (by assumption)] | rw [zPa_y hp hn] | rfl
        have hP : va_P D vwCl [(M, .inr (9, [.int (nI 0), .ref mtx, .int (nI len), .int (nI pl), .int rt, .int fr, .int pr, .ref mod_, .int (nI n), .ref mne, .ref mro, .int (nI m), .int rrt, .int rfr, .int rpr, .ref mrod, .int (nI rn9), .ref mrne, .ref mrro, .int (nI rm9), .ref mrp, .ref mpg, .ref mbk, .int (nI (zPa n (nI p) (fun p => zKa (nI k) (fun k => if f (25 + p) = -9 then zna ac + 1 else ac) ac) ac)), .ref mke, .ref mik, .int (nI cr), .ref mrw, .ref mrd, .long sd, .ref mtr, .ref mwo, .ref mnx, .int jr])), (mpg, .inl (cI, 36, .inl (zPa n (nI p) (fun p => zKa (nI k) (fun k => if f (25 + p) = -9 then zmdc g pr p k else g) g) g))), (mbk, .inl (cI, 432, .inl (zPa n (nI p) (fun p => zKa (nI k) (fun k => if f (25 + p) = -9 then znote g bk ac else bk) bk) bk)))] H := Eq.subst (motive := fun zz_ => va_P D vwCl [(M, .inr (9, [.int (nI 0), .ref mtx, .int (nI len), .int (nI pl), .int rt, .int fr, .int pr, .ref mod_, .int (nI n), .ref mne, .ref mro, .int (nI m), .int rrt, .int rfr, .int rpr, .ref mrod, .int (nI rn9), .ref mrne, .ref mrro, .int (nI rm9), .ref mrp, .ref mpg, .ref mbk, .int (nI (zPa n (nI p) (fun p => zKa (nI k) (fun k => if f (25 + p) = -9 then zna ac + 1 else ac) ac) ac)), .ref mke, .ref mik, .int (nI cr), .ref mrw, .ref mrd, .long sd, .ref mtr, .ref mwo, .ref mnx, .int jr])), (mpg, .inl (cI, 36, .inl (zPa n (nI p) (fun p => zKa (nI k) (fun k => if f (25 + p) = -9 then zmdc g pr p k else g) g) g))), (mbk, .inl (cI, 432, .inl zz_))] H) e_15 hP
        have hD : va_D A [(M, .inr (9, [.int (nI 0), .ref mtx, .int (nI len), .int (nI pl), .int rt, .int fr, .int pr, .ref mod_, .int (nI n), .ref mne, .ref mro, .int (nI m), .int rrt, .int rfr, .int rpr, .ref mrod, .int (nI rn9), .ref mrne, .ref mrro, .int (nI rm9), .ref mrp, .ref mpg, .ref mbk, .int (nI (zPa n (nI p) (fun p => zKa (nI k) (fun k => if f (25 + p) = -9 then zna ac + 1 else ac) ac) ac)), .ref mke, .ref mik, .int (nI cr), .ref mrw, .ref mrd, .long sd, .ref mtr, .ref mwo, .ref mnx, .int jr])), (mpg, .inl (cI, 36, .inl (zPa n (nI p) (fun p => zKa (nI k) (fun k => if f (25 + p) = -9 then zmdc g pr p k else g) g) g))), (mbk, .inl (cI, 432, .inl (zPa n (nI p) (fun p => zKa (nI k) (fun k => if f (25 + p) = -9 then znote g bk ac else bk) bk) bk)))] := zD_of hD rfl
        exact z_iret Z () (by first | (rw [zPa_y hp hn, zKa_y hk, if_pos (by assumption)]; exact zmdc_c hp1) | (rw [zPa_y hp hn, zKa_y hk, if_pos (by assumption)]; done) | (rw [zPa_y hp hn, zKa_y hk, if_pos (by assumption)]; rfl)  | rw [zPa_n (by assumption)] | rw [zPa_y hp hn, zKa_n (by assumption)] | rw [zPa_y hp hn, zKa_y hk, if_pos (by assumption)] | rw [zPa_y hp hn, zKa_y hk, if_neg (by assumption)] | rw [zPa_y hp hn, zKa_y hk] | rw [zPa_y hp hn, if_pos (by assumption)] | rw [zPa_y hp hn, if_neg (by assumption)] | rw [zPa_y hp hn] | rfl) hP hS dX9_declare_43
    · have c_6 := zb1 c_6
      refine lv_bipush (v := -2) hx hb dX9_declare_22 (by decide) ?_
      have e_16 : nI ac = nI (zPa n (nI p) (fun p => zKa x2 (fun k => if f (25 + p) = -9 then zna ac + 1 else ac) ac) ac) := by first | (rw [zPa_y hp hn, zKa_y hk, if_pos (by assumption)]; exact zmdc_c hp1) | (rw [zPa_y hp hn, zKa_y hk, if_pos (by assumption)]; done) | (rw [zPa_y hp hn, zKa_y hk, if_pos (by assumption)]; rfl)  | rw [zPa_n (by assumption)] | rw [zPa_y hp hn, zKa_n (by assumption)] | rw [zPa_y hp hn, zKa_y hk, if_pos (by assumption)] | rw [zPa_y hp hn, zKa_y hk, if_neg (by assumption)] | rw [zPa_y hp hn, zKa_y hk] | rw [zPa_y hp hn, if_pos (by assumption)] | rw [zPa_y hp hn, if_neg (by assumption)] | rw [zPa_y hp hn] | rfl
      have hP : va_P D vwCl [(M, .inr (9, [.int (nI 0), .ref mtx, .int (nI len), .int (nI pl), .int rt, .int fr, .int pr, .ref mod_, .int (nI n), .ref mne, .ref mro, .int (nI m), .int rrt, .int rfr, .int rpr, .ref mrod, .int (nI rn9), .ref mrne, .ref mrro, .int (nI rm9), .ref mrp, .ref mpg, .ref mbk, .int (nI (zPa n (nI p) (fun p => zKa x2 (fun k => if f (25 + p) = -9 then zna ac + 1 else ac) ac) ac)), .ref mke, .ref mik, .int (nI cr), .ref mrw, .ref mrd, .long sd, .ref mtr, .ref mwo, .ref mnx, .int jr])), (mpg, .inl (cI, 36, .inl g)), (mbk, .inl (cI, 432, .inl bk))] H := Eq.subst (motive := fun zz_ => va_P D vwCl [(M, .inr (9, [.int (nI 0), .ref mtx, .int (nI len), .int (nI pl), .int rt, .int fr, .int pr, .ref mod_, .int (nI n), .ref mne, .ref mro, .int (nI m), .int rrt, .int rfr, .int rpr, .ref mrod, .int (nI rn9), .ref mrne, .ref mrro, .int (nI rm9), .ref mrp, .ref mpg, .ref mbk, .int zz_, .ref mke, .ref mik, .int (nI cr), .ref mrw, .ref mrd, .long sd, .ref mtr, .ref mwo, .ref mnx, .int jr])), (mpg, .inl (cI, 36, .inl g)), (mbk, .inl (cI, 432, .inl bk))] H) e_16 hP
      have e_17 : g = (zPa n (nI p) (fun p => zKa x2 (fun k => if f (25 + p) = -9 then zmdc g pr p k else g) g) g) := by first | (rw [zPa_y hp hn, zKa_y hk, if_pos (by assumption)]; exact zmdc_c hp1) | (rw [zPa_y hp hn, zKa_y hk, if_pos (by assumption)]; done) | (rw [zPa_y hp hn, zKa_y hk, if_pos (by assumption)]; rfl)  | rw [zPa_n (by assumption)] | rw [zPa_y hp hn, zKa_n (by assumption)] | rw [zPa_y hp hn, zKa_y hk, if_pos (by assumption)] | rw [zPa_y hp hn, zKa_y hk, if_neg (by assumption)] | rw [zPa_y hp hn, zKa_y hk] | rw [zPa_y hp hn, if_pos (by assumption)] | rw [zPa_y hp hn, if_neg (by assumption)] | rw [zPa_y hp hn] | rfl
      have hP : va_P D vwCl [(M, .inr (9, [.int (nI 0), .ref mtx, .int (nI len), .int (nI pl), .int rt, .int fr, .int pr, .ref mod_, .int (nI n), .ref mne, .ref mro, .int (nI m), .int rrt, .int rfr, .int rpr, .ref mrod, .int (nI rn9), .ref mrne, .ref mrro, .int (nI rm9), .ref mrp, .ref mpg, .ref mbk, .int (nI (zPa n (nI p) (fun p => zKa x2 (fun k => if f (25 + p) = -9 then zna ac + 1 else ac) ac) ac)), .ref mke, .ref mik, .int (nI cr), .ref mrw, .ref mrd, .long sd, .ref mtr, .ref mwo, .ref mnx, .int jr])), (mpg, .inl (cI, 36, .inl (zPa n (nI p) (fun p => zKa x2 (fun k => if f (25 + p) = -9 then zmdc g pr p k else g) g) g))), (mbk, .inl (cI, 432, .inl bk))] H := Eq.subst (motive := fun zz_ => va_P D vwCl [(M, .inr (9, [.int (nI 0), .ref mtx, .int (nI len), .int (nI pl), .int rt, .int fr, .int pr, .ref mod_, .int (nI n), .ref mne, .ref mro, .int (nI m), .int rrt, .int rfr, .int rpr, .ref mrod, .int (nI rn9), .ref mrne, .ref mrro, .int (nI rm9), .ref mrp, .ref mpg, .ref mbk, .int (nI (zPa n (nI p) (fun p => zKa x2 (fun k => if f (25 + p) = -9 then zna ac + 1 else ac) ac) ac)), .ref mke, .ref mik, .int (nI cr), .ref mrw, .ref mrd, .long sd, .ref mtr, .ref mwo, .ref mnx, .int jr])), (mpg, .inl (cI, 36, .inl zz_)), (mbk, .inl (cI, 432, .inl bk))] H) e_17 hP
      have e_18 : bk = (zPa n (nI p) (fun p => zKa x2 (fun k => if f (25 + p) = -9 then znote g bk ac else bk) bk) bk) := by first | (rw [zPa_y hp hn, zKa_y hk, if_pos (by assumption)]; exact zmdc_c hp1) | (rw [zPa_y hp hn, zKa_y hk, if_pos (by assumption)]; done) | (rw [zPa_y hp hn, zKa_y hk, if_pos (by assumption)]; rfl)  | rw [zPa_n (by assumption)] | rw [zPa_y hp hn, zKa_n (by assumption)] | rw [zPa_y hp hn, zKa_y hk, if_pos (by assumption)] | rw [zPa_y hp hn, zKa_y hk, if_neg (by assumption)] | rw [zPa_y hp hn, zKa_y hk] | rw [zPa_y hp hn, if_pos (by assumption)] | rw [zPa_y hp hn, if_neg (by assumption)] | rw [zPa_y hp hn] | rfl
      have hP : va_P D vwCl [(M, .inr (9, [.int (nI 0), .ref mtx, .int (nI len), .int (nI pl), .int rt, .int fr, .int pr, .ref mod_, .int (nI n), .ref mne, .ref mro, .int (nI m), .int rrt, .int rfr, .int rpr, .ref mrod, .int (nI rn9), .ref mrne, .ref mrro, .int (nI rm9), .ref mrp, .ref mpg, .ref mbk, .int (nI (zPa n (nI p) (fun p => zKa x2 (fun k => if f (25 + p) = -9 then zna ac + 1 else ac) ac) ac)), .ref mke, .ref mik, .int (nI cr), .ref mrw, .ref mrd, .long sd, .ref mtr, .ref mwo, .ref mnx, .int jr])), (mpg, .inl (cI, 36, .inl (zPa n (nI p) (fun p => zKa x2 (fun k => if f (25 + p) = -9 then zmdc g pr p k else g) g) g))), (mbk, .inl (cI, 432, .inl (zPa n (nI p) (fun p => zKa x2 (fun k => if f (25 + p) = -9 then znote g bk ac else bk) bk) bk)))] H := Eq.subst (motive := fun zz_ => va_P D vwCl [(M, .inr (9, [.int (nI 0), .ref mtx, .int (nI len), .int (nI pl), .int rt, .int fr, .int pr, .ref mod_, .int (nI n), .ref mne, .ref mro, .int (nI m), .int rrt, .int rfr, .int rpr, .ref mrod, .int (nI rn9), .ref mrne, .ref mrro, .int (nI rm9), .ref mrp, .ref mpg, .ref mbk, .int (nI (zPa n (nI p) (fun p => zKa x2 (fun k => if f (25 + p) = -9 then zna ac + 1 else ac) ac) ac)), .ref mke, .ref mik, .int (nI cr), .ref mrw, .ref mrd, .long sd, .ref mtr, .ref mwo, .ref mnx, .int jr])), (mpg, .inl (cI, 36, .inl (zPa n (nI p) (fun p => zKa x2 (fun k => if f (25 + p) = -9 then zmdc g pr p k else g) g) g))), (mbk, .inl (cI, 432, .inl zz_))] H) e_18 hP
      have hD : va_D A [(M, .inr (9, [.int (nI 0), .ref mtx, .int (nI len), .int (nI pl), .int rt, .int fr, .int pr, .ref mod_, .int (nI n), .ref mne, .ref mro, .int (nI m), .int rrt, .int rfr, .int rpr, .ref mrod, .int (nI rn9), .ref mrne, .ref mrro, .int (nI rm9), .ref mrp, .ref mpg, .ref mbk, .int (nI (zPa n (nI p) (fun p => zKa x2 (fun k => if f (25 + p) = -9 then zna ac + 1 else ac) ac) ac)), .ref mke, .ref mik, .int (nI cr), .ref mrw, .ref mrd, .long sd, .ref mtr, .ref mwo, .ref mnx, .int jr])), (mpg, .inl (cI, 36, .inl (zPa n (nI p) (fun p => zKa x2 (fun k => if f (25 + p) = -9 then zmdc g pr p k else g) g) g))), (mbk, .inl (cI, 432, .inl (zPa n (nI p) (fun p => zKa x2 (fun k => if f (25 + p) = -9 then znote g bk ac else bk) bk) bk)))] := zD_of hD rfl
      exact z_iret Z () (by first | (rw [zPa_y hp hn, zKa_y hk, if_pos (by assumption)]; exact zmdc_c hp1) | (rw [zPa_y hp hn, zKa_y hk, if_pos (by assumption)]; done) | (rw [zPa_y hp hn, zKa_y hk, if_pos (by assumption)]; rfl)  | rw [zPa_n (by assumption)] | rw [zPa_y hp hn, zKa_n (by assumption)] | rw [zPa_y hp hn, zKa_y hk, if_pos (by assumption)] | rw [zPa_y hp hn, zKa_y hk, if_neg (by assumption)] | rw [zPa_y hp hn, zKa_y hk] | rw [zPa_y hp hn, if_pos (by assumption)] | rw [zPa_y hp hn, if_neg (by assumption)] | rw [zPa_y hp hn] | rfl) hP hS dX9_declare_24
  · have c_3 := zb1 c_3
    refine lv_iconst (v := -1) hx hb dX9_declare_13 (by decide) ?_
    have e_19 : nI ac = nI (zPa n x1 (fun p => zKa x2 (fun k => if f (25 + p) = -9 then zna ac + 1 else ac) ac) ac) := by first | (rw [zPa_y hp hn, zKa_y hk, if_pos (by assumption)]; exact zmdc_c hp1) | (rw [zPa_y hp hn, zKa_y hk, if_pos (by assumption)]; done) | (rw [zPa_y hp hn, zKa_y hk, if_pos (by assumption)]; rfl)  | rw [zPa_n (by assumption)] | rw [zPa_y hp hn, zKa_n (by assumption)] | rw [zPa_y hp hn, zKa_y hk, if_pos (by assumption)] | rw [zPa_y hp hn, zKa_y hk, if_neg (by assumption)] | rw [zPa_y hp hn, zKa_y hk] | rw [zPa_y hp hn, if_pos (by assumption)] | rw [zPa_y hp hn, if_neg (by assumption)] | rw [zPa_y hp hn] | rfl
    have hP : va_P D vwCl [(M, .inr (9, [.int (nI 0), .ref mtx, .int (nI len), .int (nI pl), .int rt, .int fr, .int pr, .ref mod_, .int (nI n), .ref mne, .ref mro, .int (nI m), .int rrt, .int rfr, .int rpr, .ref mrod, .int (nI rn9), .ref mrne, .ref mrro, .int (nI rm9), .ref mrp, .ref mpg, .ref mbk, .int (nI (zPa n x1 (fun p => zKa x2 (fun k => if f (25 + p) = -9 then zna ac + 1 else ac) ac) ac)), .ref mke, .ref mik, .int (nI cr), .ref mrw, .ref mrd, .long sd, .ref mtr, .ref mwo, .ref mnx, .int jr])), (mpg, .inl (cI, 36, .inl g)), (mbk, .inl (cI, 432, .inl bk))] H := Eq.subst (motive := fun zz_ => va_P D vwCl [(M, .inr (9, [.int (nI 0), .ref mtx, .int (nI len), .int (nI pl), .int rt, .int fr, .int pr, .ref mod_, .int (nI n), .ref mne, .ref mro, .int (nI m), .int rrt, .int rfr, .int rpr, .ref mrod, .int (nI rn9), .ref mrne, .ref mrro, .int (nI rm9), .ref mrp, .ref mpg, .ref mbk, .int zz_, .ref mke, .ref mik, .int (nI cr), .ref mrw, .ref mrd, .long sd, .ref mtr, .ref mwo, .ref mnx, .int jr])), (mpg, .inl (cI, 36, .inl g)), (mbk, .inl (cI, 432, .inl bk))] H) e_19 hP
    have e_20 : g = (zPa n x1 (fun p => zKa x2 (fun k => if f (25 + p) = -9 then zmdc g pr p k else g) g) g) := by first | (rw [zPa_y hp hn, zKa_y hk, if_pos (by assumption)]; exact zmdc_c hp1) | (rw [zPa_y hp hn, zKa_y hk, if_pos (by assumption)]; done) | (rw [zPa_y hp hn, zKa_y hk, if_pos (by assumption)]; rfl)  | rw [zPa_n (by assumption)] | rw [zPa_y hp hn, zKa_n (by assumption)] | rw [zPa_y hp hn, zKa_y hk, if_pos (by assumption)] | rw [zPa_y hp hn, zKa_y hk, if_neg (by assumption)] | rw [zPa_y hp hn, zKa_y hk] | rw [zPa_y hp hn, if_pos (by assumption)] | rw [zPa_y hp hn, if_neg (by assumption)] | rw [zPa_y hp hn] | rfl
    have hP : va_P D vwCl [(M, .inr (9, [.int (nI 0), .ref mtx, .int (nI len), .int (nI pl), .int rt, .int fr, .int pr, .ref mod_, .int (nI n), .ref mne, .ref mro, .int (nI m), .int rrt, .int rfr, .int rpr, .ref mrod, .int (nI rn9), .ref mrne, .ref mrro, .int (nI rm9), .ref mrp, .ref mpg, .ref mbk, .int (nI (zPa n x1 (fun p => zKa x2 (fun k => if f (25 + p) = -9 then zna ac + 1 else ac) ac) ac)), .ref mke, .ref mik, .int (nI cr), .ref mrw, .ref mrd, .long sd, .ref mtr, .ref mwo, .ref mnx, .int jr])), (mpg, .inl (cI, 36, .inl (zPa n x1 (fun p => zKa x2 (fun k => if f (25 + p) = -9 then zmdc g pr p k else g) g) g))), (mbk, .inl (cI, 432, .inl bk))] H := Eq.subst (motive := fun zz_ => va_P D vwCl [(M, .inr (9, [.int (nI 0), .ref mtx, .int (nI len), .int (nI pl), .int rt, .int fr, .int pr, .ref mod_, .int (nI n), .ref mne, .ref mro, .int (nI m), .int rrt, .int rfr, .int rpr, .ref mrod, .int (nI rn9), .ref mrne, .ref mrro, .int (nI rm9), .ref mrp, .ref mpg, .ref mbk, .int (nI (zPa n x1 (fun p => zKa x2 (fun k => if f (25 + p) = -9 then zna ac + 1 else ac) ac) ac)), .ref mke, .ref mik, .int (nI cr), .ref mrw, .ref mrd, .long sd, .ref mtr, .ref mwo, .ref mnx, .int jr])), (mpg, .inl (cI, 36, .inl zz_)), (mbk, .inl (cI, 432, .inl bk))] H) e_20 hP
    have e_21 : bk = (zPa n x1 (fun p => zKa x2 (fun k => if f (25 + p) = -9 then znote g bk ac else bk) bk) bk) := by first | (rw [zPa_y hp hn, zKa_y hk, if_pos (by assumption)]; exact zmdc_c hp1) | (rw [zPa_y hp hn, zKa_y hk, if_pos (by assumption)]; done) | (rw [zPa_y hp hn, zKa_y hk, if_pos (by assumption)]; rfl)  | rw [zPa_n (by assumption)] | rw [zPa_y hp hn, zKa_n (by assumption)] | rw [zPa_y hp hn, zKa_y hk, if_pos (by assumption)] | rw [zPa_y hp hn, zKa_y hk, if_neg (by assumption)] | rw [zPa_y hp hn, zKa_y hk] | rw [zPa_y hp hn, if_pos (by assumption)] | rw [zPa_y hp hn, if_neg (by assumption)] | rw [zPa_y hp hn] | rfl
    have hP : va_P D vwCl [(M, .inr (9, [.int (nI 0), .ref mtx, .int (nI len), .int (nI pl), .int rt, .int fr, .int pr, .ref mod_, .int (nI n), .ref mne, .ref mro, .int (nI m), .int rrt, .int rfr, .int rpr, .ref mrod, .int (nI rn9), .ref mrne, .ref mrro, .int (nI rm9), .ref mrp, .ref mpg, .ref mbk, .int (nI (zPa n x1 (fun p => zKa x2 (fun k => if f (25 + p) = -9 then zna ac + 1 else ac) ac) ac)), .ref mke, .ref mik, .int (nI cr), .ref mrw, .ref mrd, .long sd, .ref mtr, .ref mwo, .ref mnx, .int jr])), (mpg, .inl (cI, 36, .inl (zPa n x1 (fun p => zKa x2 (fun k => if f (25 + p) = -9 then zmdc g pr p k else g) g) g))), (mbk, .inl (cI, 432, .inl (zPa n x1 (fun p => zKa x2 (fun k => if f (25 + p) = -9 then znote g bk ac else bk) bk) bk)))] H := Eq.subst (motive := fun zz_ => va_P D vwCl [(M, .inr (9, [.int (nI 0), .ref mtx, .int (nI len), .int (nI pl), .int rt, .int fr, .int pr, .ref mod_, .int (nI n), .ref mne, .ref mro, .int (nI m), .int rrt, .int rfr, .int rpr, .ref mrod, .int (nI rn9), .ref mrne, .ref mrro, .int (nI rm9), .ref mrp, .ref mpg, .ref mbk, .int (nI (zPa n x1 (fun p => zKa x2 (fun k => if f (25 + p) = -9 then zna ac + 1 else ac) ac) ac)), .ref mke, .ref mik, .int (nI cr), .ref mrw, .ref mrd, .long sd, .ref mtr, .ref mwo, .ref mnx, .int jr])), (mpg, .inl (cI, 36, .inl (zPa n x1 (fun p => zKa x2 (fun k => if f (25 + p) = -9 then zmdc g pr p k else g) g) g))), (mbk, .inl (cI, 432, .inl zz_))] H) e_21 hP
    have hD : va_D A [(M, .inr (9, [.int (nI 0), .ref mtx, .int (nI len), .int (nI pl), .int rt, .int fr, .int pr, .ref mod_, .int (nI n), .ref mne, .ref mro, .int (nI m), .int rrt, .int rfr, .int rpr, .ref mrod, .int (nI rn9), .ref mrne, .ref mrro, .int (nI rm9), .ref mrp, .ref mpg, .ref mbk, .int (nI (zPa n x1 (fun p => zKa x2 (fun k => if f (25 + p) = -9 then zna ac + 1 else ac) ac) ac)), .ref mke, .ref mik, .int (nI cr), .ref mrw, .ref mrd, .long sd, .ref mtr, .ref mwo, .ref mnx, .int jr])), (mpg, .inl (cI, 36, .inl (zPa n x1 (fun p => zKa x2 (fun k => if f (25 + p) = -9 then zmdc g pr p k else g) g) g))), (mbk, .inl (cI, 432, .inl (zPa n x1 (fun p => zKa x2 (fun k => if f (25 + p) = -9 then znote g bk ac else bk) bk) bk)))] := zD_of hD rfl
    exact z_iret Z () (by first | (rw [zPa_y hp hn, zKa_y hk, if_pos (by assumption)]; exact zmdc_c hp1) | (rw [zPa_y hp hn, zKa_y hk, if_pos (by assumption)]; done) | (rw [zPa_y hp hn, zKa_y hk, if_pos (by assumption)]; rfl)  | rw [zPa_n (by assumption)] | rw [zPa_y hp hn, zKa_n (by assumption)] | rw [zPa_y hp hn, zKa_y hk, if_pos (by assumption)] | rw [zPa_y hp hn, zKa_y hk, if_neg (by assumption)] | rw [zPa_y hp hn, zKa_y hk] | rw [zPa_y hp hn, if_pos (by assumption)] | rw [zPa_y hp hn, if_neg (by assumption)] | rw [zPa_y hp hn] | rfl) hP hS dX9_declare_14

theorem dX9_tellOn_0 : decode cX9_tellOn 0 = .ok (.aload_n 0, 1) := by decide +kernel
theorem dX9_tellOn_1 : decode cX9_tellOn 1 = .ok (.iconst 0, 1) := by decide +kernel
theorem dX9_tellOn_2 : decode cX9_tellOn 2 = .ok (.putfield 62, 3) := by decide +kernel
theorem dX9_tellOn_5 : decode cX9_tellOn 5 = .ok (.aload_n 0, 1) := by decide +kernel
theorem dX9_tellOn_6 : decode cX9_tellOn 6 = .ok (.iload_n 1, 1) := by decide +kernel
theorem dX9_tellOn_7 : decode cX9_tellOn 7 = .ok (.invokevirtual 147, 3) := by decide +kernel
theorem dX9_tellOn_10 : decode cX9_tellOn 10 = .ok (.ifCond .ne 11, 3) := by decide +kernel
theorem dX9_tellOn_13 : decode cX9_tellOn 13 = .ok (.aload_n 0, 1) := by decide +kernel
theorem dX9_tellOn_14 : decode cX9_tellOn 14 = .ok (.iload_n 2, 1) := by decide +kernel
theorem dX9_tellOn_15 : decode cX9_tellOn 15 = .ok (.invokevirtual 147, 3) := by decide +kernel
theorem dX9_tellOn_18 : decode cX9_tellOn 18 = .ok (.ifCond .eq 5, 3) := by decide +kernel
theorem dX9_tellOn_21 : decode cX9_tellOn 21 = .ok (.iconst (-1), 1) := by decide +kernel
theorem dX9_tellOn_22 : decode cX9_tellOn 22 = .ok (.ireturn, 1) := by decide +kernel
theorem dX9_tellOn_23 : decode cX9_tellOn 23 = .ok (.aload_n 0, 1) := by decide +kernel
theorem dX9_tellOn_24 : decode cX9_tellOn 24 = .ok (.getfield 34, 3) := by decide +kernel
theorem dX9_tellOn_27 : decode cX9_tellOn 27 = .ok (.bipush 7, 2) := by decide +kernel
theorem dX9_tellOn_29 : decode cX9_tellOn 29 = .ok (.iload_n 1, 1) := by decide +kernel
theorem dX9_tellOn_30 : decode cX9_tellOn 30 = .ok (.imul, 1) := by decide +kernel
theorem dX9_tellOn_31 : decode cX9_tellOn 31 = .ok (.iconst 5, 1) := by decide +kernel
theorem dX9_tellOn_32 : decode cX9_tellOn 32 = .ok (.iadd, 1) := by decide +kernel
theorem dX9_tellOn_33 : decode cX9_tellOn 33 = .ok (.iaload, 1) := by decide +kernel
theorem dX9_tellOn_34 : decode cX9_tellOn 34 = .ok (.istore_n 3, 1) := by decide +kernel
theorem dX9_tellOn_35 : decode cX9_tellOn 35 = .ok (.iload_n 3, 1) := by decide +kernel
theorem dX9_tellOn_36 : decode cX9_tellOn 36 = .ok (.bipush (-9), 2) := by decide +kernel
theorem dX9_tellOn_38 : decode cX9_tellOn 38 = .ok (.if_icmp .eq 49, 3) := by decide +kernel
theorem dX9_tellOn_41 : decode cX9_tellOn 41 = .ok (.aload_n 0, 1) := by decide +kernel
theorem dX9_tellOn_42 : decode cX9_tellOn 42 = .ok (.getfield 19, 3) := by decide +kernel
theorem dX9_tellOn_45 : decode cX9_tellOn 45 = .ok (.iload_n 1, 1) := by decide +kernel
theorem dX9_tellOn_46 : decode cX9_tellOn 46 = .ok (.iaload, 1) := by decide +kernel
theorem dX9_tellOn_47 : decode cX9_tellOn 47 = .ok (.iload_n 2, 1) := by decide +kernel
theorem dX9_tellOn_48 : decode cX9_tellOn 48 = .ok (.invokestatic 105, 3) := by decide +kernel
theorem dX9_tellOn_51 : decode cX9_tellOn 51 = .ok (.ifCond .eq 36, 3) := by decide +kernel
theorem dX9_tellOn_54 : decode cX9_tellOn 54 = .ok (.aload_n 0, 1) := by decide +kernel
theorem dX9_tellOn_55 : decode cX9_tellOn 55 = .ok (.getfield 34, 3) := by decide +kernel
theorem dX9_tellOn_58 : decode cX9_tellOn 58 = .ok (.bipush 7, 2) := by decide +kernel
theorem dX9_tellOn_60 : decode cX9_tellOn 60 = .ok (.iload_n 2, 1) := by decide +kernel
theorem dX9_tellOn_61 : decode cX9_tellOn 61 = .ok (.imul, 1) := by decide +kernel
theorem dX9_tellOn_62 : decode cX9_tellOn 62 = .ok (.iconst 5, 1) := by decide +kernel
theorem dX9_tellOn_63 : decode cX9_tellOn 63 = .ok (.iadd, 1) := by decide +kernel
theorem dX9_tellOn_64 : decode cX9_tellOn 64 = .ok (.iaload, 1) := by decide +kernel
theorem dX9_tellOn_65 : decode cX9_tellOn 65 = .ok (.bipush (-9), 2) := by decide +kernel
theorem dX9_tellOn_67 : decode cX9_tellOn 67 = .ok (.if_icmp .ne 20, 3) := by decide +kernel
theorem dX9_tellOn_70 : decode cX9_tellOn 70 = .ok (.aload_n 0, 1) := by decide +kernel
theorem dX9_tellOn_71 : decode cX9_tellOn 71 = .ok (.getfield 34, 3) := by decide +kernel
theorem dX9_tellOn_74 : decode cX9_tellOn 74 = .ok (.bipush 7, 2) := by decide +kernel
theorem dX9_tellOn_76 : decode cX9_tellOn 76 = .ok (.iload_n 2, 1) := by decide +kernel
theorem dX9_tellOn_77 : decode cX9_tellOn 77 = .ok (.imul, 1) := by decide +kernel
theorem dX9_tellOn_78 : decode cX9_tellOn 78 = .ok (.bipush 6, 2) := by decide +kernel
theorem dX9_tellOn_80 : decode cX9_tellOn 80 = .ok (.iadd, 1) := by decide +kernel
theorem dX9_tellOn_81 : decode cX9_tellOn 81 = .ok (.iaload, 1) := by decide +kernel
theorem dX9_tellOn_82 : decode cX9_tellOn 82 = .ok (.bipush (-9), 2) := by decide +kernel
theorem dX9_tellOn_84 : decode cX9_tellOn 84 = .ok (.if_icmp .eq 6, 3) := by decide +kernel
theorem dX9_tellOn_87 : decode cX9_tellOn 87 = .ok (.bipush (-3), 2) := by decide +kernel
theorem dX9_tellOn_89 : decode cX9_tellOn 89 = .ok (.ireturn, 1) := by decide +kernel
theorem dX9_tellOn_90 : decode cX9_tellOn 90 = .ok (.aload_n 0, 1) := by decide +kernel
theorem dX9_tellOn_91 : decode cX9_tellOn 91 = .ok (.invokevirtual 167, 3) := by decide +kernel
theorem dX9_tellOn_94 : decode cX9_tellOn 94 = .ok (.aload_n 0, 1) := by decide +kernel
theorem dX9_tellOn_95 : decode cX9_tellOn 95 = .ok (.getfield 34, 3) := by decide +kernel
theorem dX9_tellOn_98 : decode cX9_tellOn 98 = .ok (.bipush 7, 2) := by decide +kernel
theorem dX9_tellOn_100 : decode cX9_tellOn 100 = .ok (.iload_n 2, 1) := by decide +kernel
theorem dX9_tellOn_101 : decode cX9_tellOn 101 = .ok (.imul, 1) := by decide +kernel
theorem dX9_tellOn_102 : decode cX9_tellOn 102 = .ok (.bipush 6, 2) := by decide +kernel
theorem dX9_tellOn_104 : decode cX9_tellOn 104 = .ok (.iadd, 1) := by decide +kernel
theorem dX9_tellOn_105 : decode cX9_tellOn 105 = .ok (.iload_n 3, 1) := by decide +kernel
theorem dX9_tellOn_106 : decode cX9_tellOn 106 = .ok (.iastore, 1) := by decide +kernel
theorem dX9_tellOn_107 : decode cX9_tellOn 107 = .ok (.iload_n 3, 1) := by decide +kernel
theorem dX9_tellOn_108 : decode cX9_tellOn 108 = .ok (.ireturn, 1) := by decide +kernel
theorem zd_X9_tellOn : yX9_tellOn.cls ≠ "java/lang/invoke/MethodHandle" ∧ yX9_tellOn.cls ≠ "java/lang/invoke/VarHandle" ∧ (parseMethodDescriptor yX9_tellOn.desc).map (fun d => d.parameters.length) = some 2 := by decide +kernel
set_option maxHeartbeats 4000000 in
set_option maxRecDepth 100000 in
theorem zc_X9_tellOn (l : Launch) (D : va_G) (cI cZ : ClassId) (M : Nat) (th : Int32) (mtx : Nat) (len : Nat) (pl : Nat) (rt : Int32) (fr : Int32) (pr : Int32) (mod_ : Nat) (n : Nat) (mne : Nat) (mro : Nat) (m : Nat) (rrt : Int32) (rfr : Int32) (rpr : Int32) (mrod : Nat) (rn9 : Nat) (mrne : Nat) (mrro : Nat) (rm9 : Nat) (mrp : Nat) (mpg : Nat) (mbk : Nat) (ac : Nat) (mke : Nat) (mik : Nat) (cr : Nat) (mrw : Nat) (mrd : Nat) (sd : Int64) (mtr : Nat) (mwo : Nat) (mnx : Nat) (jr : Int32) (g : Nat → Int32) (bk : Nat → Int32) (f : Nat → Int32) (rd : Nat → Int32) (md : Nat → Int32) (x1 : Int32) (x2 : Int32) (hn : n ≤ 5) (hpg : zpr n f g) (hac : ac ≤ 12) (hrd : ∀ p, p < n → md p = rd p) : zI l yX9_tellOn cX9_tellOn 4 .int 2 46 D cI cZ [.ref M, .int x1, .int x2] [(M, .inr (9, [.int th, .ref mtx, .int (nI len), .int (nI pl), .int rt, .int fr, .int pr, .ref mod_, .int (nI n), .ref mne, .ref mro, .int (nI m), .int rrt, .int rfr, .int rpr, .ref mrod, .int (nI rn9), .ref mrne, .ref mrro, .int (nI rm9), .ref mrp, .ref mpg, .ref mbk, .int (nI ac), .ref mke, .ref mik, .int (nI cr), .ref mrw, .ref mrd, .long sd, .ref mtr, .ref mwo, .ref mnx, .int jr])), (mpg, .inl (cI, 36, .inl g)), (mbk, .inl (cI, 432, .inl bk)), (mro, .inl (cI, 5, .inl md))] (fun (r : Int32) (u : Unit) => r = zPa n x1 (fun p => zPa n x2 (fun q => if zTO f rd p q then f (25 + p) else -3) (-1)) (-1)) (fun (u : Unit) => [(M, .inr (9, [.int (nI 0), .ref mtx, .int (nI len), .int (nI pl), .int rt, .int fr, .int pr, .ref mod_, .int (nI n), .ref mne, .ref mro, .int (nI m), .int rrt, .int rfr, .int rpr, .ref mrod, .int (nI rn9), .ref mrne, .ref mrro, .int (nI rm9), .ref mrp, .ref mpg, .ref mbk, .int (nI (zPa n x1 (fun p => zPa n x2 (fun q => if zTO f rd p q then zna ac + 1 else ac) ac) ac)), .ref mke, .ref mik, .int (nI cr), .ref mrw, .ref mrd, .long sd, .ref mtr, .ref mwo, .ref mnx, .int jr])), (mpg, .inl (cI, 36, .inl (zPa n x1 (fun p => zPa n x2 (fun q => if zTO f rd p q then upd g (7 * q + 6) (f (25 + p)) else g) g) g))), (mbk, .inl (cI, 432, .inl (zPa n x1 (fun p => zPa n x2 (fun q => if zTO f rd p q then znote g bk ac else bk) bk) bk))), (mro, .inl (cI, 5, .inl md))]) := by
  refine zI_of (by decide) (Nat.le_of_ble_eq_true rfl) ?_
  intro pP eE sS mM aA bB mT cC A ls Z hP hD hS hl
  have hx := Z.1
  have hb := Z.2.1
  have hown := Z.2.2.2.2.2.1
  have hts := Z.2.2.2.2.1
  have Z : zAt pP sS mM aA mT cC D cI cZ A "SurpriseTaxModel" cX9_tellOn 4 (some .int) := Z
  have hl : lv_has ls 4 [(0, .ref M), (1, .int x1), (2, .int x2)] := hl
  obtain ⟨H, hH⟩ : ∃ H, H = sS.heap := ⟨_, rfl⟩
  have hP : va_P D vwCl [(M, .inr (9, [.int th, .ref mtx, .int (nI len), .int (nI pl), .int rt, .int fr, .int pr, .ref mod_, .int (nI n), .ref mne, .ref mro, .int (nI m), .int rrt, .int rfr, .int rpr, .ref mrod, .int (nI rn9), .ref mrne, .ref mrro, .int (nI rm9), .ref mrp, .ref mpg, .ref mbk, .int (nI ac), .ref mke, .ref mik, .int (nI cr), .ref mrw, .ref mrd, .long sd, .ref mtr, .ref mwo, .ref mnx, .int jr])), (mpg, .inl (cI, 36, .inl g)), (mbk, .inl (cI, 432, .inl bk)), (mro, .inl (cI, 5, .inl md))] H := by rw [hH]; exact hP
  have hS : va_S A sS.heap H [] := by rw [hH]; exact hS
  rw [← hH]
  clear hH
  obtain ⟨locs, hlo⟩ : ∃ q : List Loc, q = [] := ⟨_, rfl⟩
  rw [← hlo] at hS ⊢
  clear hlo
  refine lv_aload_n hx hb dX9_tellOn_0 rfl (lv_at hl 0 rfl) ?_
  refine lv_iconst (v := nI 0) hx hb dX9_tellOn_1 (by decide) ?_
  refine z_put (ci := 9) (v := .int (nI 0)) Z zin9 tyX9 tyX9_ok nmX9 hP hD hS 0 rfl rfl 0 (by decide) zm677 rfl rfl rfl rfl (Nat.le_of_ble_eq_true rfl) dX9_tellOn_2 (fun H locs hP hD hS => ?_)
  have hP : va_P D vwCl [(M, .inr (9, [.int (nI 0), .ref mtx, .int (nI len), .int (nI pl), .int rt, .int fr, .int pr, .ref mod_, .int (nI n), .ref mne, .ref mro, .int (nI m), .int rrt, .int rfr, .int rpr, .ref mrod, .int (nI rn9), .ref mrne, .ref mrro, .int (nI rm9), .ref mrp, .ref mpg, .ref mbk, .int (nI ac), .ref mke, .ref mik, .int (nI cr), .ref mrw, .ref mrd, .long sd, .ref mtr, .ref mwo, .ref mnx, .int jr])), (mpg, .inl (cI, 36, .inl g)), (mbk, .inl (cI, 432, .inl bk)), (mro, .inl (cI, 5, .inl md))] H := hP
  have hD : va_D A [(M, .inr (9, [.int (nI 0), .ref mtx, .int (nI len), .int (nI pl), .int rt, .int fr, .int pr, .ref mod_, .int (nI n), .ref mne, .ref mro, .int (nI m), .int rrt, .int rfr, .int rpr, .ref mrod, .int (nI rn9), .ref mrne, .ref mrro, .int (nI rm9), .ref mrp, .ref mpg, .ref mbk, .int (nI ac), .ref mke, .ref mik, .int (nI cr), .ref mrw, .ref mrd, .long sd, .ref mtr, .ref mwo, .ref mnx, .int jr])), (mpg, .inl (cI, 36, .inl g)), (mbk, .inl (cI, 432, .inl bk)), (mro, .inl (cI, 5, .inl md))] := hD
  refine lv_aload_n hx hb dX9_tellOn_5 rfl (lv_at hl 0 rfl) ?_
  refine lv_iload_n hx hb dX9_tellOn_6 rfl (lv_at hl 1 rfl) ?_
  refine z_callVi (As := [.int x1]) (rest := []) (ci := 9) (k0 := 0) Z hP hD hS hl.1 (zc_X9_noOne l D cI cZ M (nI 0) mtx len pl rt fr pr mod_ n mne mro m rrt rfr rpr mrod rn9 mrne mrro rm9 mrp mpg mbk ac mke mik cr mrw mrd sd mtr mwo mnx jr x1 (by omega)) zm797 zm798 zm19 zm39 zm799 ⟨rfl, zd_X9_noOne⟩ ⟨Nat.le_of_ble_eq_true rfl, Nat.le_of_ble_eq_true rfl⟩ ⟨Nat.zero_le _, Nat.zero_le _⟩ [0] rfl (by decide) rfl rfl rfl (fun _ => rfl) rfl (Nat.le_of_ble_eq_true rfl) rfl dX9_tellOn_7 (fun r_1 u H locs h_2 hP hD hS => ?_)
  have hP : va_P D vwCl [(M, .inr (9, [.int (nI 0), .ref mtx, .int (nI len), .int (nI pl), .int rt, .int fr, .int pr, .ref mod_, .int (nI n), .ref mne, .ref mro, .int (nI m), .int rrt, .int rfr, .int rpr, .ref mrod, .int (nI rn9), .ref mrne, .ref mrro, .int (nI rm9), .ref mrp, .ref mpg, .ref mbk, .int (nI ac), .ref mke, .ref mik, .int (nI cr), .ref mrw, .ref mrd, .long sd, .ref mtr, .ref mwo, .ref mnx, .int jr])), (mpg, .inl (cI, 36, .inl g)), (mbk, .inl (cI, 432, .inl bk)), (mro, .inl (cI, 5, .inl md))] H := hP
  have hD : va_D A [(M, .inr (9, [.int (nI 0), .ref mtx, .int (nI len), .int (nI pl), .int rt, .int fr, .int pr, .ref mod_, .int (nI n), .ref mne, .ref mro, .int (nI m), .int rrt, .int rfr, .int rpr, .ref mrod, .int (nI rn9), .ref mrne, .ref mrro, .int (nI rm9), .ref mrp, .ref mpg, .ref mbk, .int (nI ac), .ref mke, .ref mik, .int (nI cr), .ref mrw, .ref mrd, .long sd, .ref mtr, .ref mwo, .ref mnx, .int jr])), (mpg, .inl (cI, 36, .inl g)), (mbk, .inl (cI, 432, .inl bk)), (mro, .inl (cI, 5, .inl md))] := hD
  have h_2 : r_1 = if ¬ zhas n x1 then 1 else 0 := h_2
  subst h_2
  refine lv_if_ne (tgt := 21) hx hb dX9_tellOn_10 (by decide) (fun c_3 => ?_) (fun c_3 => ?_)
  · have c_3 := zb1 c_3
    refine lv_iconst (v := -1) hx hb dX9_tellOn_21 (by decide) ?_
    have e_4 : nI ac = nI (zPa n x1 (fun p => zPa n x2 (fun q => if zTO f rd p q then zna ac + 1 else ac) ac) ac) := by first | rw [zPa_n (by assumption)] | (rw [zPa_y hp hn, zPa_n (by assumption)]) | (rw [zPa_y hp hn, zPa_y hq hn]; first | rw [if_pos ⟨by assumption, by assumption, ⟨by assumption, by assumption⟩⟩] | rw [if_neg (fun h => h.1 (by assumption))] | rw [if_neg (fun h => absurd h.2.1 (by assumption))] | rw [if_neg (fun h => absurd h.2.2.1 (by assumption))] | rw [if_neg (fun h => absurd h.2.2.2 (by assumption))]) | rfl
    have hP : va_P D vwCl [(M, .inr (9, [.int (nI 0), .ref mtx, .int (nI len), .int (nI pl), .int rt, .int fr, .int pr, .ref mod_, .int (nI n), .ref mne, .ref mro, .int (nI m), .int rrt, .int rfr, .int rpr, .ref mrod, .int (nI rn9), .ref mrne, .ref mrro, .int (nI rm9), .ref mrp, .ref mpg, .ref mbk, .int (nI (zPa n x1 (fun p => zPa n x2 (fun q => if zTO f rd p q then zna ac + 1 else ac) ac) ac)), .ref mke, .ref mik, .int (nI cr), .ref mrw, .ref mrd, .long sd, .ref mtr, .ref mwo, .ref mnx, .int jr])), (mpg, .inl (cI, 36, .inl g)), (mbk, .inl (cI, 432, .inl bk)), (mro, .inl (cI, 5, .inl md))] H := Eq.subst (motive := fun zz_ => va_P D vwCl [(M, .inr (9, [.int (nI 0), .ref mtx, .int (nI len), .int (nI pl), .int rt, .int fr, .int pr, .ref mod_, .int (nI n), .ref mne, .ref mro, .int (nI m), .int rrt, .int rfr, .int rpr, .ref mrod, .int (nI rn9), .ref mrne, .ref mrro, .int (nI rm9), .ref mrp, .ref mpg, .ref mbk, .int zz_, .ref mke, .ref mik, .int (nI cr), .ref mrw, .ref mrd, .long sd, .ref mtr, .ref mwo, .ref mnx, .int jr])), (mpg, .inl (cI, 36, .inl g)), (mbk, .inl (cI, 432, .inl bk)), (mro, .inl (cI, 5, .inl md))] H) e_4 hP
    have e_5 : g = (zPa n x1 (fun p => zPa n x2 (fun q => if zTO f rd p q then upd g (7 * q + 6) (f (25 + p)) else g) g) g) := by first | rw [zPa_n (by assumption)] | (rw [zPa_y hp hn, zPa_n (by assumption)]) | (rw [zPa_y hp hn, zPa_y hq hn]; first | rw [if_pos ⟨by assumption, by assumption, ⟨by assumption, by assumption⟩⟩] | rw [if_neg (fun h => h.1 (by assumption))] | rw [if_neg (fun h => absurd h.2.1 (by assumption))] | rw [if_neg (fun h => absurd h.2.2.1 (by assumption))] | rw [if_neg (fun h => absurd h.2.2.2 (by assumption))]) | rfl
    have hP : va_P D vwCl [(M, .inr (9, [.int (nI 0), .ref mtx, .int (nI len), .int (nI pl), .int rt, .int fr, .int pr, .ref mod_, .int (nI n), .ref mne, .ref mro, .int (nI m), .int rrt, .int rfr, .int rpr, .ref mrod, .int (nI rn9), .ref mrne, .ref mrro, .int (nI rm9), .ref mrp, .ref mpg, .ref mbk, .int (nI (zPa n x1 (fun p => zPa n x2 (fun q => if zTO f rd p q then zna ac + 1 else ac) ac) ac)), .ref mke, .ref mik, .int (nI cr), .ref mrw, .ref mrd, .long sd, .ref mtr, .ref mwo, .ref mnx, .int jr])), (mpg, .inl (cI, 36, .inl (zPa n x1 (fun p => zPa n x2 (fun q => if zTO f rd p q then upd g (7 * q + 6) (f (25 + p)) else g) g) g))), (mbk, .inl (cI, 432, .inl bk)), (mro, .inl (cI, 5, .inl md))] H := Eq.subst (motive := fun zz_ => va_P D vwCl [(M, .inr (9, [.int (nI 0), .ref mtx, .int (nI len), .int (nI pl), .int rt, .int fr, .int pr, .ref mod_, .int (nI n), .ref mne, .ref mro, .int (nI m), .int rrt, .int rfr, .int rpr, .ref mrod, .int (nI rn9), .ref mrne, .ref mrro, .int (nI rm9), .ref mrp, .ref mpg, .ref mbk, .int (nI (zPa n x1 (fun p => zPa n x2 (fun q => if zTO f rd p q then zna ac + 1 else ac) ac) ac)), .ref mke, .ref mik, .int (nI cr), .ref mrw, .ref mrd, .long sd, .ref mtr, .ref mwo, .ref mnx, .int jr])), (mpg, .inl (cI, 36, .inl zz_)), (mbk, .inl (cI, 432, .inl bk)), (mro, .inl (cI, 5, .inl md))] H) e_5 hP
    have e_6 : bk = (zPa n x1 (fun p => zPa n x2 (fun q => if zTO f rd p q then znote g bk ac else bk) bk) bk) := by first | rw [zPa_n (by assumption)] | (rw [zPa_y hp hn, zPa_n (by assumption)]) | (rw [zPa_y hp hn, zPa_y hq hn]; first | rw [if_pos ⟨by assumption, by assumption, ⟨by assumption, by assumption⟩⟩] | rw [if_neg (fun h => h.1 (by assumption))] | rw [if_neg (fun h => absurd h.2.1 (by assumption))] | rw [if_neg (fun h => absurd h.2.2.1 (by assumption))] | rw [if_neg (fun h => absurd h.2.2.2 (by assumption))]) | rfl
    have hP : va_P D vwCl [(M, .inr (9, [.int (nI 0), .ref mtx, .int (nI len), .int (nI pl), .int rt, .int fr, .int pr, .ref mod_, .int (nI n), .ref mne, .ref mro, .int (nI m), .int rrt, .int rfr, .int rpr, .ref mrod, .int (nI rn9), .ref mrne, .ref mrro, .int (nI rm9), .ref mrp, .ref mpg, .ref mbk, .int (nI (zPa n x1 (fun p => zPa n x2 (fun q => if zTO f rd p q then zna ac + 1 else ac) ac) ac)), .ref mke, .ref mik, .int (nI cr), .ref mrw, .ref mrd, .long sd, .ref mtr, .ref mwo, .ref mnx, .int jr])), (mpg, .inl (cI, 36, .inl (zPa n x1 (fun p => zPa n x2 (fun q => if zTO f rd p q then upd g (7 * q + 6) (f (25 + p)) else g) g) g))), (mbk, .inl (cI, 432, .inl (zPa n x1 (fun p => zPa n x2 (fun q => if zTO f rd p q then znote g bk ac else bk) bk) bk))), (mro, .inl (cI, 5, .inl md))] H := Eq.subst (motive := fun zz_ => va_P D vwCl [(M, .inr (9, [.int (nI 0), .ref mtx, .int (nI len), .int (nI pl), .int rt, .int fr, .int pr, .ref mod_, .int (nI n), .ref mne, .ref mro, .int (nI m), .int rrt, .int rfr, .int rpr, .ref mrod, .int (nI rn9), .ref mrne, .ref mrro, .int (nI rm9), .ref mrp, .ref mpg, .ref mbk, .int (nI (zPa n x1 (fun p => zPa n x2 (fun q => if zTO f rd p q then zna ac + 1 else ac) ac) ac)), .ref mke, .ref mik, .int (nI cr), .ref mrw, .ref mrd, .long sd, .ref mtr, .ref mwo, .ref mnx, .int jr])), (mpg, .inl (cI, 36, .inl (zPa n x1 (fun p => zPa n x2 (fun q => if zTO f rd p q then upd g (7 * q + 6) (f (25 + p)) else g) g) g))), (mbk, .inl (cI, 432, .inl zz_)), (mro, .inl (cI, 5, .inl md))] H) e_6 hP
    have hD : va_D A [(M, .inr (9, [.int (nI 0), .ref mtx, .int (nI len), .int (nI pl), .int rt, .int fr, .int pr, .ref mod_, .int (nI n), .ref mne, .ref mro, .int (nI m), .int rrt, .int rfr, .int rpr, .ref mrod, .int (nI rn9), .ref mrne, .ref mrro, .int (nI rm9), .ref mrp, .ref mpg, .ref mbk, .int (nI (zPa n x1 (fun p => zPa n x2 (fun q => if zTO f rd p q then zna ac + 1 else ac) ac) ac)), .ref mke, .ref mik, .int (nI cr), .ref mrw, .ref mrd, .long sd, .ref mtr, .ref mwo, .ref mnx, .int jr])), (mpg, .inl (cI, 36, .inl (zPa n x1 (fun p => zPa n x2 (fun q => if zTO f rd p q then upd g (7 * q + 6) (f (25 + p)) else g) g) g))), (mbk, .inl (cI, 432, .inl (zPa n x1 (fun p => zPa n x2 (fun q => if zTO f rd p q then znote g bk ac else bk) bk) bk))), (mro, .inl (cI, 5, .inl md))] := zD_of hD rfl
    exact z_iret Z () (by first | rw [zPa_n (by assumption)] | (rw [zPa_y hp hn, zPa_n (by assumption)]) | (rw [zPa_y hp hn, zPa_y hq hn]; first | rw [if_pos ⟨by assumption, by assumption, ⟨by assumption, by assumption⟩⟩] | rw [if_neg (fun h => h.1 (by assumption))] | rw [if_neg (fun h => absurd h.2.1 (by assumption))] | rw [if_neg (fun h => absurd h.2.2.1 (by assumption))] | rw [if_neg (fun h => absurd h.2.2.2 (by assumption))]) | rfl) hP hS dX9_tellOn_22
  · have c_3 := zb0 c_3
    have hzz := Classical.not_not.mp c_3
    obtain ⟨p, hp, rfl⟩ := zhas_of (by omega) hzz
    have hp1 := hpg.1 p hp
    refine lv_aload_n hx hb dX9_tellOn_13 rfl (lv_at hl 0 rfl) ?_
    refine lv_iload_n hx hb dX9_tellOn_14 rfl (lv_at hl 2 rfl) ?_
    refine z_callVi (As := [.int x2]) (rest := []) (ci := 9) (k0 := 0) Z hP hD hS hl.1 (zc_X9_noOne l D cI cZ M (nI 0) mtx len pl rt fr pr mod_ n mne mro m rrt rfr rpr mrod rn9 mrne mrro rm9 mrp mpg mbk ac mke mik cr mrw mrd sd mtr mwo mnx jr x2 (by omega)) zm797 zm798 zm19 zm39 zm799 ⟨rfl, zd_X9_noOne⟩ ⟨Nat.le_of_ble_eq_true rfl, Nat.le_of_ble_eq_true rfl⟩ ⟨Nat.zero_le _, Nat.zero_le _⟩ [0] rfl (by decide) rfl rfl rfl (fun _ => rfl) rfl (Nat.le_of_ble_eq_true rfl) rfl dX9_tellOn_15 (fun r_7 u H locs h_8 hP hD hS => ?_)
    have hP : va_P D vwCl [(M, .inr (9, [.int (nI 0), .ref mtx, .int (nI len), .int (nI pl), .int rt, .int fr, .int pr, .ref mod_, .int (nI n), .ref mne, .ref mro, .int (nI m), .int rrt, .int rfr, .int rpr, .ref mrod, .int (nI rn9), .ref mrne, .ref mrro, .int (nI rm9), .ref mrp, .ref mpg, .ref mbk, .int (nI ac), .ref mke, .ref mik, .int (nI cr), .ref mrw, .ref mrd, .long sd, .ref mtr, .ref mwo, .ref mnx, .int jr])), (mpg, .inl (cI, 36, .inl g)), (mbk, .inl (cI, 432, .inl bk)), (mro, .inl (cI, 5, .inl md))] H := hP
    have hD : va_D A [(M, .inr (9, [.int (nI 0), .ref mtx, .int (nI len), .int (nI pl), .int rt, .int fr, .int pr, .ref mod_, .int (nI n), .ref mne, .ref mro, .int (nI m), .int rrt, .int rfr, .int rpr, .ref mrod, .int (nI rn9), .ref mrne, .ref mrro, .int (nI rm9), .ref mrp, .ref mpg, .ref mbk, .int (nI ac), .ref mke, .ref mik, .int (nI cr), .ref mrw, .ref mrd, .long sd, .ref mtr, .ref mwo, .ref mnx, .int jr])), (mpg, .inl (cI, 36, .inl g)), (mbk, .inl (cI, 432, .inl bk)), (mro, .inl (cI, 5, .inl md))] := hD
    have h_8 : r_7 = if ¬ zhas n x2 then 1 else 0 := h_8
    subst h_8
    refine lv_if_eq (tgt := 23) hx hb dX9_tellOn_18 (by decide) (fun c_9 => ?_) (fun c_9 => ?_)
    · have c_9 := zb0 c_9
      have hzz := Classical.not_not.mp c_9
      obtain ⟨q, hq, rfl⟩ := zhas_of (by omega) hzz
      have hq1 := hpg.1 q hq
      refine lv_aload_n hx hb dX9_tellOn_23 rfl (lv_at hl 0 rfl) ?_
      refine z_get (ci := 9) (v := .ref mpg) Z zin9 hP 0 rfl rfl 21 (by decide) zm698 rfl rfl dX9_tellOn_24 ?_
      refine lv_bipush (v := nI 7) hx hb dX9_tellOn_27 (by decide) ?_
      refine lv_iload_n hx hb dX9_tellOn_29 rfl (lv_at hl 1 rfl) ?_
      refine lv_imul hx hb dX9_tellOn_30 ?_
      refine z_top (y := nI (7 * p)) (z_mul _ _) ?_
      refine lv_iconst (v := nI 5) hx hb dX9_tellOn_31 (by decide) ?_
      refine lv_iadd hx hb dX9_tellOn_32 ?_
      refine z_top (y := nI (7 * p + 5)) (z_add _ _) ?_
      refine z_iald (n := 36) (f := g) (j := 7 * p + 5) Z hP 1 rfl (by omega) (by decide) dX9_tellOn_33 ?_
      refine z_top (y := f (25 + p)) (hp1.2.2.1) ?_
      refine lv_istore_n (lv' := [(3, .int (f (25 + p))), (0, .ref M), (1, .int (nI p)), (2, .int (nI q))]) hx hb dX9_tellOn_34 rfl hl (by decide) rfl (fun ls hl => ?_)
      refine lv_iload_n hx hb dX9_tellOn_35 rfl (lv_at hl 0 rfl) ?_
      refine lv_bipush (v := -9) hx hb dX9_tellOn_36 (by decide) ?_
      refine lv_icmp_eq (tgt := 87) hx hb dX9_tellOn_38 (by decide) (fun c_10 => ?_) (fun c_10 => ?_)
      · have c_10 : (f (25 + p)) = (-9) := c_10
        refine lv_bipush (v := -3) hx hb dX9_tellOn_87 (by decide) ?_
        have e_11 : nI ac = nI (zPa n (nI p) (fun p => zPa n (nI q) (fun q => if zTO f rd p q then zna ac + 1 else ac) ac) ac) := by first | rw [zPa_n (by assumption)] | (rw [zPa_y hp hn, zPa_n (by assumption)]) | (rw [zPa_y hp hn, zPa_y hq hn]; first | rw [if_pos ⟨by assumption, by assumption, ⟨by assumption, by assumption⟩⟩] | rw [if_neg (fun h => h.1 (by assumption))] | rw [if_neg (fun h => absurd h.2.1 (by assumption))] | rw [if_neg (fun h => absurd h.2.2.1 (by assumption))] | rw [if_neg (fun h => absurd h.2.2.2 (by assumption))]) | rfl
        have hP : va_P D vwCl [(M, .inr (9, [.int (nI 0), .ref mtx, .int (nI len), .int (nI pl), .int rt, .int fr, .int pr, .ref mod_, .int (nI n), .ref mne, .ref mro, .int (nI m), .int rrt, .int rfr, .int rpr, .ref mrod, .int (nI rn9), .ref mrne, .ref mrro, .int (nI rm9), .ref mrp, .ref mpg, .ref mbk, .int (nI (zPa n (nI p) (fun p => zPa n (nI q) (fun q => if zTO f rd p q then zna ac + 1 else ac) ac) ac)), .ref mke, .ref mik, .int (nI cr), .ref mrw, .ref mrd, .long sd, .ref mtr, .ref mwo, .ref mnx, .int jr])), (mpg, .inl (cI, 36, .inl g)), (mbk, .inl (cI, 432, .inl bk)), (mro, .inl (cI, 5, .inl md))] H := Eq.subst (motive := fun zz_ => va_P D vwCl [(M, .inr (9, [.int (nI 0), .ref mtx, .int (nI len), .int (nI pl), .int rt, .int fr, .int pr, .ref mod_, .int (nI n), .ref mne, .ref mro, .int (nI m), .int rrt, .int rfr, .int rpr, .ref mrod, .int (nI rn9), .ref mrne, .ref mrro, .int (nI rm9), .ref mrp, .ref mpg, .ref mbk, .int zz_, .ref mke, .ref mik, .int (nI cr), .ref mrw, .ref mrd, .long sd, .ref mtr, .ref mwo, .ref mnx, .int jr])), (mpg, .inl (cI, 36, .inl g)), (mbk, .inl (cI, 432, .inl bk)), (mro, .inl (cI, 5, .inl md))] H) e_11 hP
        have e_12 : g = (zPa n (nI p) (fun p => zPa n (nI q) (fun q => if zTO f rd p q then upd g (7 * q + 6) (f (25 + p)) else g) g) g) := by first | rw [zPa_n (by assumption)] | (rw [zPa_y hp hn, zPa_n (by assumption)]) | (rw [zPa_y hp hn, zPa_y hq hn]; first | rw [if_pos ⟨by assumption, by assumption, ⟨by assumption, by assumption⟩⟩] | rw [if_neg (fun h => h.1 (by assumption))] | rw [if_neg (fun h => absurd h.2.1 (by assumption))] | rw [if_neg (fun h => absurd h.2.2.1 (by assumption))] | rw [if_neg (fun h => absurd h.2.2.2 (by assumption))]) | rfl
        have hP : va_P D vwCl [(M, .inr (9, [.int (nI 0), .ref mtx, .int (nI len), .int (nI pl), .int rt, .int fr, .int pr, .ref mod_, .int (nI n), .ref mne, .ref mro, .int (nI m), .int rrt, .int rfr, .int rpr, .ref mrod, .int (nI rn9), .ref mrne, .ref mrro, .int (nI rm9), .ref mrp, .ref mpg, .ref mbk, .int (nI (zPa n (nI p) (fun p => zPa n (nI q) (fun q => if zTO f rd p q then zna ac + 1 else ac) ac) ac)), .ref mke, .ref mik, .int (nI cr), .ref mrw, .ref mrd, .long sd, .ref mtr, .ref mwo, .ref mnx, .int jr])), (mpg, .inl (cI, 36, .inl (zPa n (nI p) (fun p => zPa n (nI q) (fun q => if zTO f rd p q then upd g (7 * q + 6) (f (25 + p)) else g) g) g))), (mbk, .inl (cI, 432, .inl bk)), (mro, .inl (cI, 5, .inl md))] H := Eq.subst (motive := fun zz_ => va_P D vwCl [(M, .inr (9, [.int (nI 0), .ref mtx, .int (nI len), .int (nI pl), .int rt, .int fr, .int pr, .ref mod_, .int (nI n), .ref mne, .ref mro, .int (nI m), .int rrt, .int rfr, .int rpr, .ref mrod, .int (nI rn9), .ref mrne, .ref mrro, .int (nI rm9), .ref mrp, .ref mpg, .ref mbk, .int (nI (zPa n (nI p) (fun p => zPa n (nI q) (fun q => if zTO f rd p q then zna ac + 1 else ac) ac) ac)), .ref mke, .ref mik, .int (nI cr), .ref mrw, .ref mrd, .long sd, .ref mtr, .ref mwo, .ref mnx, .int jr])), (mpg, .inl (cI, 36, .inl zz_)), (mbk, .inl (cI, 432, .inl bk)), (mro, .inl (cI, 5, .inl md))] H) e_12 hP
        have e_13 : bk = (zPa n (nI p) (fun p => zPa n (nI q) (fun q => if zTO f rd p q then znote g bk ac else bk) bk) bk) := by first | rw [zPa_n (by assumption)] | (rw [zPa_y hp hn, zPa_n (by assumption)]) | (rw [zPa_y hp hn, zPa_y hq hn]; first | rw [if_pos ⟨by assumption, by assumption, ⟨by assumption, by assumption⟩⟩] | rw [if_neg (fun h => h.1 (by assumption))] | rw [if_neg (fun h => absurd h.2.1 (by assumption))] | rw [if_neg (fun h => absurd h.2.2.1 (by assumption))] | rw [if_neg (fun h => absurd h.2.2.2 (by assumption))]) | rfl
        have hP : va_P D vwCl [(M, .inr (9, [.int (nI 0), .ref mtx, .int (nI len), .int (nI pl), .int rt, .int fr, .int pr, .ref mod_, .int (nI n), .ref mne, .ref mro, .int (nI m), .int rrt, .int rfr, .int rpr, .ref mrod, .int (nI rn9), .ref mrne, .ref mrro, .int (nI rm9), .ref mrp, .ref mpg, .ref mbk, .int (nI (zPa n (nI p) (fun p => zPa n (nI q) (fun q => if zTO f rd p q then zna ac + 1 else ac) ac) ac)), .ref mke, .ref mik, .int (nI cr), .ref mrw, .ref mrd, .long sd, .ref mtr, .ref mwo, .ref mnx, .int jr])), (mpg, .inl (cI, 36, .inl (zPa n (nI p) (fun p => zPa n (nI q) (fun q => if zTO f rd p q then upd g (7 * q + 6) (f (25 + p)) else g) g) g))), (mbk, .inl (cI, 432, .inl (zPa n (nI p) (fun p => zPa n (nI q) (fun q => if zTO f rd p q then znote g bk ac else bk) bk) bk))), (mro, .inl (cI, 5, .inl md))] H := Eq.subst (motive := fun zz_ => va_P D vwCl [(M, .inr (9, [.int (nI 0), .ref mtx, .int (nI len), .int (nI pl), .int rt, .int fr, .int pr, .ref mod_, .int (nI n), .ref mne, .ref mro, .int (nI m), .int rrt, .int rfr, .int rpr, .ref mrod, .int (nI rn9), .ref mrne, .ref mrro, .int (nI rm9), .ref mrp, .ref mpg, .ref mbk, .int (nI (zPa n (nI p) (fun p => zPa n (nI q) (fun q => if zTO f rd p q then zna ac + 1 else ac) ac) ac)), .ref mke, .ref mik, .int (nI cr), .ref mrw, .ref mrd, .long sd, .ref mtr, .ref mwo, .ref mnx, .int jr])), (mpg, .inl (cI, 36, .inl (zPa n (nI p) (fun p => zPa n (nI q) (fun q => if zTO f rd p q then upd g (7 * q + 6) (f (25 + p)) else g) g) g))), (mbk, .inl (cI, 432, .inl zz_)), (mro, .inl (cI, 5, .inl md))] H) e_13 hP
        have hD : va_D A [(M, .inr (9, [.int (nI 0), .ref mtx, .int (nI len), .int (nI pl), .int rt, .int fr, .int pr, .ref mod_, .int (nI n), .ref mne, .ref mro, .int (nI m), .int rrt, .int rfr, .int rpr, .ref mrod, .int (nI rn9), .ref mrne, .ref mrro, .int (nI rm9), .ref mrp, .ref mpg, .ref mbk, .int (nI (zPa n (nI p) (fun p => zPa n (nI q) (fun q => if zTO f rd p q then zna ac + 1 else ac) ac) ac)), .ref mke, .ref mik, .int (nI cr), .ref mrw, .ref mrd, .long sd, .ref mtr, .ref mwo, .ref mnx, .int jr])), (mpg, .inl (cI, 36, .inl (zPa n (nI p) (fun p => zPa n (nI q) (fun q => if zTO f rd p q then upd g (7 * q + 6) (f (25 + p)) else g) g) g))), (mbk, .inl (cI, 432, .inl (zPa n (nI p) (fun p => zPa n (nI q) (fun q => if zTO f rd p q then znote g bk ac else bk) bk) bk))), (mro, .inl (cI, 5, .inl md))] := zD_of hD rfl
        exact z_iret Z () (by first | rw [zPa_n (by assumption)] | (rw [zPa_y hp hn, zPa_n (by assumption)]) | (rw [zPa_y hp hn, zPa_y hq hn]; first | rw [if_pos ⟨by assumption, by assumption, ⟨by assumption, by assumption⟩⟩] | rw [if_neg (fun h => h.1 (by assumption))] | rw [if_neg (fun h => absurd h.2.1 (by assumption))] | rw [if_neg (fun h => absurd h.2.2.1 (by assumption))] | rw [if_neg (fun h => absurd h.2.2.2 (by assumption))]) | rfl) hP hS dX9_tellOn_89
      · have c_10 : ¬ ((f (25 + p)) = (-9)) := c_10
        refine lv_aload_n hx hb dX9_tellOn_41 rfl (lv_at hl 1 rfl) ?_
        refine z_get (ci := 9) (v := .ref mro) Z zin9 hP 0 rfl rfl 10 (by decide) zm687 rfl rfl dX9_tellOn_42 ?_
        refine lv_iload_n hx hb dX9_tellOn_45 rfl (lv_at hl 2 rfl) ?_
        refine z_iald (n := 5) (f := md) (j := p) Z hP 3 rfl (by omega) (by decide) dX9_tellOn_46 ?_
        refine z_top (y := rd p) (hrd p hp) ?_
        refine lv_iload_n hx hb dX9_tellOn_47 rfl (lv_at hl 3 rfl) ?_
        refine z_callSi (As := [.int (rd p), .int (nI q)]) (rest := []) Z hP hD hS hl.1 (zc_X9_has l D cI cZ (rd p) q (by omega)) zm779 zm780 zm39 zm781 zd_X9_has ⟨Nat.le_of_ble_eq_true rfl, Nat.le_of_ble_eq_true rfl⟩ ⟨Nat.zero_le _, Nat.zero_le _⟩ [] rfl (by decide) (fun _ => rfl) rfl (Nat.le_of_ble_eq_true rfl) rfl dX9_tellOn_48 (fun r_14 u H locs h_15 hP hD hS => ?_)
        have hP : va_P D vwCl [(M, .inr (9, [.int (nI 0), .ref mtx, .int (nI len), .int (nI pl), .int rt, .int fr, .int pr, .ref mod_, .int (nI n), .ref mne, .ref mro, .int (nI m), .int rrt, .int rfr, .int rpr, .ref mrod, .int (nI rn9), .ref mrne, .ref mrro, .int (nI rm9), .ref mrp, .ref mpg, .ref mbk, .int (nI ac), .ref mke, .ref mik, .int (nI cr), .ref mrw, .ref mrd, .long sd, .ref mtr, .ref mwo, .ref mnx, .int jr])), (mpg, .inl (cI, 36, .inl g)), (mbk, .inl (cI, 432, .inl bk)), (mro, .inl (cI, 5, .inl md))] H := hP
        have hD : va_D A [(M, .inr (9, [.int (nI 0), .ref mtx, .int (nI len), .int (nI pl), .int rt, .int fr, .int pr, .ref mod_, .int (nI n), .ref mne, .ref mro, .int (nI m), .int rrt, .int rfr, .int rpr, .ref mrod, .int (nI rn9), .ref mrne, .ref mrro, .int (nI rm9), .ref mrp, .ref mpg, .ref mbk, .int (nI ac), .ref mke, .ref mik, .int (nI cr), .ref mrw, .ref mrd, .long sd, .ref mtr, .ref mwo, .ref mnx, .int jr])), (mpg, .inl (cI, 36, .inl g)), (mbk, .inl (cI, 432, .inl bk)), (mro, .inl (cI, 5, .inl md))] := hD
        have h_15 : r_14 = if zin (rd p) q then 1 else 0 := h_15
        subst h_15
        refine lv_if_eq (tgt := 87) hx hb dX9_tellOn_51 (by decide) (fun c_16 => ?_) (fun c_16 => ?_)
        · have c_16 := zb0 c_16
          refine lv_bipush (v := -3) hx hb dX9_tellOn_87 (by decide) ?_
          have e_17 : nI ac = nI (zPa n (nI p) (fun p => zPa n (nI q) (fun q => if zTO f rd p q then zna ac + 1 else ac) ac) ac) := by first | rw [zPa_n (by assumption)] | (rw [zPa_y hp hn, zPa_n (by assumption)]) | (rw [zPa_y hp hn, zPa_y hq hn]; first | rw [if_pos ⟨by assumption, by assumption, ⟨by assumption, by assumption⟩⟩] | rw [if_neg (fun h => h.1 (by assumption))] | rw [if_neg (fun h => absurd h.2.1 (by assumption))] | rw [if_neg (fun h => absurd h.2.2.1 (by assumption))] | rw [if_neg (fun h => absurd h.2.2.2 (by assumption))]) | rfl
          have hP : va_P D vwCl [(M, .inr (9, [.int (nI 0), .ref mtx, .int (nI len), .int (nI pl), .int rt, .int fr, .int pr, .ref mod_, .int (nI n), .ref mne, .ref mro, .int (nI m), .int rrt, .int rfr, .int rpr, .ref mrod, .int (nI rn9), .ref mrne, .ref mrro, .int (nI rm9), .ref mrp, .ref mpg, .ref mbk, .int (nI (zPa n (nI p) (fun p => zPa n (nI q) (fun q => if zTO f rd p q then zna ac + 1 else ac) ac) ac)), .ref mke, .ref mik, .int (nI cr), .ref mrw, .ref mrd, .long sd, .ref mtr, .ref mwo, .ref mnx, .int jr])), (mpg, .inl (cI, 36, .inl g)), (mbk, .inl (cI, 432, .inl bk)), (mro, .inl (cI, 5, .inl md))] H := Eq.subst (motive := fun zz_ => va_P D vwCl [(M, .inr (9, [.int (nI 0), .ref mtx, .int (nI len), .int (nI pl), .int rt, .int fr, .int pr, .ref mod_, .int (nI n), .ref mne, .ref mro, .int (nI m), .int rrt, .int rfr, .int rpr, .ref mrod, .int (nI rn9), .ref mrne, .ref mrro, .int (nI rm9), .ref mrp, .ref mpg, .ref mbk, .int zz_, .ref mke, .ref mik, .int (nI cr), .ref mrw, .ref mrd, .long sd, .ref mtr, .ref mwo, .ref mnx, .int jr])), (mpg, .inl (cI, 36, .inl g)), (mbk, .inl (cI, 432, .inl bk)), (mro, .inl (cI, 5, .inl md))] H) e_17 hP
          have e_18 : g = (zPa n (nI p) (fun p => zPa n (nI q) (fun q => if zTO f rd p q then upd g (7 * q + 6) (f (25 + p)) else g) g) g) := by first | rw [zPa_n (by assumption)] | (rw [zPa_y hp hn, zPa_n (by assumption)]) | (rw [zPa_y hp hn, zPa_y hq hn]; first | rw [if_pos ⟨by assumption, by assumption, ⟨by assumption, by assumption⟩⟩] | rw [if_neg (fun h => h.1 (by assumption))] | rw [if_neg (fun h => absurd h.2.1 (by assumption))] | rw [if_neg (fun h => absurd h.2.2.1 (by assumption))] | rw [if_neg (fun h => absurd h.2.2.2 (by assumption))]) | rfl
          have hP : va_P D vwCl [(M, .inr (9, [.int (nI 0), .ref mtx, .int (nI len), .int (nI pl), .int rt, .int fr, .int pr, .ref mod_, .int (nI n), .ref mne, .ref mro, .int (nI m), .int rrt, .int rfr, .int rpr, .ref mrod, .int (nI rn9), .ref mrne, .ref mrro, .int (nI rm9), .ref mrp, .ref mpg, .ref mbk, .int (nI (zPa n (nI p) (fun p => zPa n (nI q) (fun q => if zTO f rd p q then zna ac + 1 else ac) ac) ac)), .ref mke, .ref mik, .int (nI cr), .ref mrw, .ref mrd, .long sd, .ref mtr, .ref mwo, .ref mnx, .int jr])), (mpg, .inl (cI, 36, .inl (zPa n (nI p) (fun p => zPa n (nI q) (fun q => if zTO f rd p q then upd g (7 * q + 6) (f (25 + p)) else g) g) g))), (mbk, .inl (cI, 432, .inl bk)), (mro, .inl (cI, 5, .inl md))] H := Eq.subst (motive := fun zz_ => va_P D vwCl [(M, .inr (9, [.int (nI 0), .ref mtx, .int (nI len), .int (nI pl), .int rt, .int fr, .int pr, .ref mod_, .int (nI n), .ref mne, .ref mro, .int (nI m), .int rrt, .int rfr, .int rpr, .ref mrod, .int (nI rn9), .ref mrne, .ref mrro, .int (nI rm9), .ref mrp, .ref mpg, .ref mbk, .int (nI (zPa n (nI p) (fun p => zPa n (nI q) (fun q => if zTO f rd p q then zna ac + 1 else ac) ac) ac)), .ref mke, .ref mik, .int (nI cr), .ref mrw, .ref mrd, .long sd, .ref mtr, .ref mwo, .ref mnx, .int jr])), (mpg, .inl (cI, 36, .inl zz_)), (mbk, .inl (cI, 432, .inl bk)), (mro, .inl (cI, 5, .inl md))] H) e_18 hP
          have e_19 : bk = (zPa n (nI p) (fun p => zPa n (nI q) (fun q => if zTO f rd p q then znote g bk ac else bk) bk) bk) := by first | rw [zPa_n (by assumption)] | (rw [zPa_y hp hn, zPa_n (by assumption)]) | (rw [zPa_y hp hn, zPa_y hq hn]; first | rw [if_pos ⟨by assumption, by assumption, ⟨by assumption, by assumption⟩⟩] | rw [if_neg (fun h => h.1 (by assumption))] | rw [if_neg (fun h => absurd h.2.1 (by assumption))] | rw [if_neg (fun h => absurd h.2.2.1 (by assumption))] | rw [if_neg (fun h => absurd h.2.2.2 (by assumption))]) | rfl
          have hP : va_P D vwCl [(M, .inr (9, [.int (nI 0), .ref mtx, .int (nI len), .int (nI pl), .int rt, .int fr, .int pr, .ref mod_, .int (nI n), .ref mne, .ref mro, .int (nI m), .int rrt, .int rfr, .int rpr, .ref mrod, .int (nI rn9), .ref mrne, .ref mrro, .int (nI rm9), .ref mrp, .ref mpg, .ref mbk, .int (nI (zPa n (nI p) (fun p => zPa n (nI q) (fun q => if zTO f rd p q then zna ac + 1 else ac) ac) ac)), .ref mke, .ref mik, .int (nI cr), .ref mrw, .ref mrd, .long sd, .ref mtr, .ref mwo, .ref mnx, .int jr])), (mpg, .inl (cI, 36, .inl (zPa n (nI p) (fun p => zPa n (nI q) (fun q => if zTO f rd p q then upd g (7 * q + 6) (f (25 + p)) else g) g) g))), (mbk, .inl (cI, 432, .inl (zPa n (nI p) (fun p => zPa n (nI q) (fun q => if zTO f rd p q then znote g bk ac else bk) bk) bk))), (mro, .inl (cI, 5, .inl md))] H := Eq.subst (motive := fun zz_ => va_P D vwCl [(M, .inr (9, [.int (nI 0), .ref mtx, .int (nI len), .int (nI pl), .int rt, .int fr, .int pr, .ref mod_, .int (nI n), .ref mne, .ref mro, .int (nI m), .int rrt, .int rfr, .int rpr, .ref mrod, .int (nI rn9), .ref mrne, .ref mrro, .int (nI rm9), .ref mrp, .ref mpg, .ref mbk, .int (nI (zPa n (nI p) (fun p => zPa n (nI q) (fun q => if zTO f rd p q then zna ac + 1 else ac) ac) ac)), .ref mke, .ref mik, .int (nI cr), .ref mrw, .ref mrd, .long sd, .ref mtr, .ref mwo, .ref mnx, .int jr])), (mpg, .inl (cI, 36, .inl (zPa n (nI p) (fun p => zPa n (nI q) (fun q => if zTO f rd p q then upd g (7 * q + 6) (f (25 + p)) else g) g) g))), (mbk, .inl (cI, 432, .inl zz_)), (mro, .inl (cI, 5, .inl md))] H) e_19 hP
          have hD : va_D A [(M, .inr (9, [.int (nI 0), .ref mtx, .int (nI len), .int (nI pl), .int rt, .int fr, .int pr, .ref mod_, .int (nI n), .ref mne, .ref mro, .int (nI m), .int rrt, .int rfr, .int rpr, .ref mrod, .int (nI rn9), .ref mrne, .ref mrro, .int (nI rm9), .ref mrp, .ref mpg, .ref mbk, .int (nI (zPa n (nI p) (fun p => zPa n (nI q) (fun q => if zTO f rd p q then zna ac + 1 else ac) ac) ac)), .ref mke, .ref mik, .int (nI cr), .ref mrw, .ref mrd, .long sd, .ref mtr, .ref mwo, .ref mnx, .int jr])), (mpg, .inl (cI, 36, .inl (zPa n (nI p) (fun p => zPa n (nI q) (fun q => if zTO f rd p q then upd g (7 * q + 6) (f (25 + p)) else g) g) g))), (mbk, .inl (cI, 432, .inl (zPa n (nI p) (fun p => zPa n (nI q) (fun q => if zTO f rd p q then znote g bk ac else bk) bk) bk))), (mro, .inl (cI, 5, .inl md))] := zD_of hD rfl
          exact z_iret Z () (by first | rw [zPa_n (by assumption)] | (rw [zPa_y hp hn, zPa_n (by assumption)]) | (rw [zPa_y hp hn, zPa_y hq hn]; first | rw [if_pos ⟨by assumption, by assumption, ⟨by assumption, by assumption⟩⟩] | rw [if_neg (fun h => h.1 (by assumption))] | rw [if_neg (fun h => absurd h.2.1 (by assumption))] | rw [if_neg (fun h => absurd h.2.2.1 (by assumption))] | rw [if_neg (fun h => absurd h.2.2.2 (by assumption))]) | rfl) hP hS dX9_tellOn_89
        · have c_16 := zb1 c_16
          refine lv_aload_n hx hb dX9_tellOn_54 rfl (lv_at hl 1 rfl) ?_
          refine z_get (ci := 9) (v := .ref mpg) Z zin9 hP 0 rfl rfl 21 (by decide) zm698 rfl rfl dX9_tellOn_55 ?_
          refine lv_bipush (v := nI 7) hx hb dX9_tellOn_58 (by decide) ?_
          refine lv_iload_n hx hb dX9_tellOn_60 rfl (lv_at hl 3 rfl) ?_
          refine lv_imul hx hb dX9_tellOn_61 ?_
          refine z_top (y := nI (7 * q)) (z_mul _ _) ?_
          refine lv_iconst (v := nI 5) hx hb dX9_tellOn_62 (by decide) ?_
          refine lv_iadd hx hb dX9_tellOn_63 ?_
          refine z_top (y := nI (7 * q + 5)) (z_add _ _) ?_
          refine z_iald (n := 36) (f := g) (j := 7 * q + 5) Z hP 1 rfl (by omega) (by decide) dX9_tellOn_64 ?_
          refine z_top (y := f (25 + q)) (hq1.2.2.1) ?_
          refine lv_bipush (v := -9) hx hb dX9_tellOn_65 (by decide) ?_
          refine lv_icmp_ne (tgt := 87) hx hb dX9_tellOn_67 (by decide) (fun c_20 => ?_) (fun c_20 => ?_)
          · have c_20 : ¬ ((f (25 + q)) = (-9)) := c_20
            refine lv_bipush (v := -3) hx hb dX9_tellOn_87 (by decide) ?_
            have e_21 : nI ac = nI (zPa n (nI p) (fun p => zPa n (nI q) (fun q => if zTO f rd p q then zna ac + 1 else ac) ac) ac) := by first | rw [zPa_n (by assumption)] | (rw [zPa_y hp hn, zPa_n (by assumption)]) | (rw [zPa_y hp hn, zPa_y hq hn]; first | rw [if_pos ⟨by assumption, by assumption, ⟨by assumption, by assumption⟩⟩] | rw [if_neg (fun h => h.1 (by assumption))] | rw [if_neg (fun h => absurd h.2.1 (by assumption))] | rw [if_neg (fun h => absurd h.2.2.1 (by assumption))] | rw [if_neg (fun h => absurd h.2.2.2 (by assumption))]) | rfl
            have hP : va_P D vwCl [(M, .inr (9, [.int (nI 0), .ref mtx, .int (nI len), .int (nI pl), .int rt, .int fr, .int pr, .ref mod_, .int (nI n), .ref mne, .ref mro, .int (nI m), .int rrt, .int rfr, .int rpr, .ref mrod, .int (nI rn9), .ref mrne, .ref mrro, .int (nI rm9), .ref mrp, .ref mpg, .ref mbk, .int (nI (zPa n (nI p) (fun p => zPa n (nI q) (fun q => if zTO f rd p q then zna ac + 1 else ac) ac) ac)), .ref mke, .ref mik, .int (nI cr), .ref mrw, .ref mrd, .long sd, .ref mtr, .ref mwo, .ref mnx, .int jr])), (mpg, .inl (cI, 36, .inl g)), (mbk, .inl (cI, 432, .inl bk)), (mro, .inl (cI, 5, .inl md))] H := Eq.subst (motive := fun zz_ => va_P D vwCl [(M, .inr (9, [.int (nI 0), .ref mtx, .int (nI len), .int (nI pl), .int rt, .int fr, .int pr, .ref mod_, .int (nI n), .ref mne, .ref mro, .int (nI m), .int rrt, .int rfr, .int rpr, .ref mrod, .int (nI rn9), .ref mrne, .ref mrro, .int (nI rm9), .ref mrp, .ref mpg, .ref mbk, .int zz_, .ref mke, .ref mik, .int (nI cr), .ref mrw, .ref mrd, .long sd, .ref mtr, .ref mwo, .ref mnx, .int jr])), (mpg, .inl (cI, 36, .inl g)), (mbk, .inl (cI, 432, .inl bk)), (mro, .inl (cI, 5, .inl md))] H) e_21 hP
            have e_22 : g = (zPa n (nI p) (fun p => zPa n (nI q) (fun q => if zTO f rd p q then upd g (7 * q + 6) (f (25 + p)) else g) g) g) := by first | rw [zPa_n (by assumption)] | (rw [zPa_y hp hn, zPa_n (by assumption)]) | (rw [zPa_y hp hn, zPa_y hq hn]; first | rw [if_pos ⟨by assumption, by assumption, ⟨by assumption, by assumption⟩⟩] | rw [if_neg (fun h => h.1 (by assumption))] | rw [if_neg (fun h => absurd h.2.1 (by assumption))] | rw [if_neg (fun h => absurd h.2.2.1 (by assumption))] | rw [if_neg (fun h => absurd h.2.2.2 (by assumption))]) | rfl
            have hP : va_P D vwCl [(M, .inr (9, [.int (nI 0), .ref mtx, .int (nI len), .int (nI pl), .int rt, .int fr, .int pr, .ref mod_, .int (nI n), .ref mne, .ref mro, .int (nI m), .int rrt, .int rfr, .int rpr, .ref mrod, .int (nI rn9), .ref mrne, .ref mrro, .int (nI rm9), .ref mrp, .ref mpg, .ref mbk, .int (nI (zPa n (nI p) (fun p => zPa n (nI q) (fun q => if zTO f rd p q then zna ac + 1 else ac) ac) ac)), .ref mke, .ref mik, .int (nI cr), .ref mrw, .ref mrd, .long sd, .ref mtr, .ref mwo, .ref mnx, .int jr])), (mpg, .inl (cI, 36, .inl (zPa n (nI p) (fun p => zPa n (nI q) (fun q => if zTO f rd p q then upd g (7 * q + 6) (f (25 + p)) else g) g) g))), (mbk, .inl (cI, 432, .inl bk)), (mro, .inl (cI, 5, .inl md))] H := Eq.subst (motive := fun zz_ => va_P D vwCl [(M, .inr (9, [.int (nI 0), .ref mtx, .int (nI len), .int (nI pl), .int rt, .int fr, .int pr, .ref mod_, .int (nI n), .ref mne, .ref mro, .int (nI m), .int rrt, .int rfr, .int rpr, .ref mrod, .int (nI rn9), .ref mrne, .ref mrro, .int (nI rm9), .ref mrp, .ref mpg, .ref mbk, .int (nI (zPa n (nI p) (fun p => zPa n (nI q) (fun q => if zTO f rd p q then zna ac + 1 else ac) ac) ac)), .ref mke, .ref mik, .int (nI cr), .ref mrw, .ref mrd, .long sd, .ref mtr, .ref mwo, .ref mnx, .int jr])), (mpg, .inl (cI, 36, .inl zz_)), (mbk, .inl (cI, 432, .inl bk)), (mro, .inl (cI, 5, .inl md))] H) e_22 hP
            have e_23 : bk = (zPa n (nI p) (fun p => zPa n (nI q) (fun q => if zTO f rd p q then znote g bk ac else bk) bk) bk) := by first | rw [zPa_n (by assumption)] | (rw [zPa_y hp hn, zPa_n (by assumption)]) | (rw [zPa_y hp hn, zPa_y hq hn]; first | rw [if_pos ⟨by assumption, by assumption, ⟨by assumption, by assumption⟩⟩] | rw [if_neg (fun h => h.1 (by assumption))] | rw [if_neg (fun h => absurd h.2.1 (by assumption))] | rw [if_neg (fun h => absurd h.2.2.1 (by assumption))] | rw [if_neg (fun h => absurd h.2.2.2 (by assumption))]) | rfl
            have hP : va_P D vwCl [(M, .inr (9, [.int (nI 0), .ref mtx, .int (nI len), .int (nI pl), .int rt, .int fr, .int pr, .ref mod_, .int (nI n), .ref mne, .ref mro, .int (nI m), .int rrt, .int rfr, .int rpr, .ref mrod, .int (nI rn9), .ref mrne, .ref mrro, .int (nI rm9), .ref mrp, .ref mpg, .ref mbk, .int (nI (zPa n (nI p) (fun p => zPa n (nI q) (fun q => if zTO f rd p q then zna ac + 1 else ac) ac) ac)), .ref mke, .ref mik, .int (nI cr), .ref mrw, .ref mrd, .long sd, .ref mtr, .ref mwo, .ref mnx, .int jr])), (mpg, .inl (cI, 36, .inl (zPa n (nI p) (fun p => zPa n (nI q) (fun q => if zTO f rd p q then upd g (7 * q + 6) (f (25 + p)) else g) g) g))), (mbk, .inl (cI, 432, .inl (zPa n (nI p) (fun p => zPa n (nI q) (fun q => if zTO f rd p q then znote g bk ac else bk) bk) bk))), (mro, .inl (cI, 5, .inl md))] H := Eq.subst (motive := fun zz_ => va_P D vwCl [(M, .inr (9, [.int (nI 0), .ref mtx, .int (nI len), .int (nI pl), .int rt, .int fr, .int pr, .ref mod_, .int (nI n), .ref mne, .ref mro, .int (nI m), .int rrt, .int rfr, .int rpr, .ref mrod, .int (nI rn9), .ref mrne, .ref mrro, .int (nI rm9), .ref mrp, .ref mpg, .ref mbk, .int (nI (zPa n (nI p) (fun p => zPa n (nI q) (fun q => if zTO f rd p q then zna ac + 1 else ac) ac) ac)), .ref mke, .ref mik, .int (nI cr), .ref mrw, .ref mrd, .long sd, .ref mtr, .ref mwo, .ref mnx, .int jr])), (mpg, .inl (cI, 36, .inl (zPa n (nI p) (fun p => zPa n (nI q) (fun q => if zTO f rd p q then upd g (7 * q + 6) (f (25 + p)) else g) g) g))), (mbk, .inl (cI, 432, .inl zz_)), (mro, .inl (cI, 5, .inl md))] H) e_23 hP
            have hD : va_D A [(M, .inr (9, [.int (nI 0), .ref mtx, .int (nI len), .int (nI pl), .int rt, .int fr, .int pr, .ref mod_, .int (nI n), .ref mne, .ref mro, .int (nI m), .int rrt, .int rfr, .int rpr, .ref mrod, .int (nI rn9), .ref mrne, .ref mrro, .int (nI rm9), .ref mrp, .ref mpg, .ref mbk, .int (nI (zPa n (nI p) (fun p => zPa n (nI q) (fun q => if zTO f rd p q then zna ac + 1 else ac) ac) ac)), .ref mke, .ref mik, .int (nI cr), .ref mrw, .ref mrd, .long sd, .ref mtr, .ref mwo, .ref mnx, .int jr])), (mpg, .inl (cI, 36, .inl (zPa n (nI p) (fun p => zPa n (nI q) (fun q => if zTO f rd p q then upd g (7 * q + 6) (f (25 + p)) else g) g) g))), (mbk, .inl (cI, 432, .inl (zPa n (nI p) (fun p => zPa n (nI q) (fun q => if zTO f rd p q then znote g bk ac else bk) bk) bk))), (mro, .inl (cI, 5, .inl md))] := zD_of hD rfl
            exact z_iret Z () (by first | rw [zPa_n (by assumption)] | (rw [zPa_y hp hn, zPa_n (by assumption)]) | (rw [zPa_y hp hn, zPa_y hq hn]; first | rw [if_pos ⟨by assumption, by assumption, ⟨by assumption, by assumption⟩⟩] | rw [if_neg (fun h => h.1 (by assumption))] | rw [if_neg (fun h => absurd h.2.1 (by assumption))] | rw [if_neg (fun h => absurd h.2.2.1 (by assumption))] | rw [if_neg (fun h => absurd h.2.2.2 (by assumption))]) | rfl) hP hS dX9_tellOn_89
          · have c_20 : (f (25 + q)) = (-9) := c_20
            refine lv_aload_n hx hb dX9_tellOn_70 rfl (lv_at hl 1 rfl) ?_
            refine z_get (ci := 9) (v := .ref mpg) Z zin9 hP 0 rfl rfl 21 (by decide) zm698 rfl rfl dX9_tellOn_71 ?_
            refine lv_bipush (v := nI 7) hx hb dX9_tellOn_74 (by decide) ?_
            refine lv_iload_n hx hb dX9_tellOn_76 rfl (lv_at hl 3 rfl) ?_
            refine lv_imul hx hb dX9_tellOn_77 ?_
            refine z_top (y := nI (7 * q)) (z_mul _ _) ?_
            refine lv_bipush (v := nI 6) hx hb dX9_tellOn_78 (by decide) ?_
            refine lv_iadd hx hb dX9_tellOn_80 ?_
            refine z_top (y := nI (7 * q + 6)) (z_add _ _) ?_
            refine z_iald (n := 36) (f := g) (j := 7 * q + 6) Z hP 1 rfl (by omega) (by decide) dX9_tellOn_81 ?_
            refine z_top (y := f (30 + q)) (hq1.2.2.2) ?_
            refine lv_bipush (v := -9) hx hb dX9_tellOn_82 (by decide) ?_
            refine lv_icmp_eq (tgt := 90) hx hb dX9_tellOn_84 (by decide) (fun c_24 => ?_) (fun c_24 => ?_)
            · have c_24 : (f (30 + q)) = (-9) := c_24
              refine lv_aload_n hx hb dX9_tellOn_90 rfl (lv_at hl 1 rfl) ?_
              refine z_callVv (As := []) (rest := []) (ci := 9) (k0 := 0) Z hP hD hS hl.1 (zc_X9_note l D cI cZ M (nI 0) mtx len pl rt fr pr mod_ n mne mro m rrt rfr rpr mrod rn9 mrne mrro rm9 mrp mpg mbk ac mke mik cr mrw mrd sd mtr mwo mnx jr g bk (by omega)) zm809 zm810 zm20 zm39 zm811 ⟨rfl, zd_X9_note⟩ ⟨Nat.le_of_ble_eq_true rfl, Nat.le_of_ble_eq_true rfl⟩ ⟨Nat.zero_le _, Nat.zero_le _⟩ [0, 1, 2] rfl (by decide) rfl rfl rfl (fun _ => rfl) rfl (Nat.le_of_ble_eq_true rfl) rfl dX9_tellOn_91 (fun u H locs h_26 hP hD hS => ?_)
              have hP : va_P D vwCl [(M, .inr (9, [.int (nI 0), .ref mtx, .int (nI len), .int (nI pl), .int rt, .int fr, .int pr, .ref mod_, .int (nI n), .ref mne, .ref mro, .int (nI m), .int rrt, .int rfr, .int rpr, .ref mrod, .int (nI rn9), .ref mrne, .ref mrro, .int (nI rm9), .ref mrp, .ref mpg, .ref mbk, .int (nI (zna ac + 1)), .ref mke, .ref mik, .int (nI cr), .ref mrw, .ref mrd, .long sd, .ref mtr, .ref mwo, .ref mnx, .int jr])), (mpg, .inl (cI, 36, .inl g)), (mbk, .inl (cI, 432, .inl (znote g bk ac))), (mro, .inl (cI, 5, .inl md))] H := hP
              have hD : va_D A [(M, .inr (9, [.int (nI 0), .ref mtx, .int (nI len), .int (nI pl), .int rt, .int fr, .int pr, .ref mod_, .int (nI n), .ref mne, .ref mro, .int (nI m), .int rrt, .int rfr, .int rpr, .ref mrod, .int (nI rn9), .ref mrne, .ref mrro, .int (nI rm9), .ref mrp, .ref mpg, .ref mbk, .int (nI (zna ac + 1)), .ref mke, .ref mik, .int (nI cr), .ref mrw, .ref mrd, .long sd, .ref mtr, .ref mwo, .ref mnx, .int jr])), (mpg, .inl (cI, 36, .inl g)), (mbk, .inl (cI, 432, .inl (znote g bk ac))), (mro, .inl (cI, 5, .inl md))] := hD
              refine lv_aload_n hx hb dX9_tellOn_94 rfl (lv_at hl 1 rfl) ?_
              refine z_get (ci := 9) (v := .ref mpg) Z zin9 hP 0 rfl rfl 21 (by decide) zm698 rfl rfl dX9_tellOn_95 ?_
              refine lv_bipush (v := nI 7) hx hb dX9_tellOn_98 (by decide) ?_
              refine lv_iload_n hx hb dX9_tellOn_100 rfl (lv_at hl 3 rfl) ?_
              refine lv_imul hx hb dX9_tellOn_101 ?_
              refine z_top (y := nI (7 * q)) (z_mul _ _) ?_
              refine lv_bipush (v := nI 6) hx hb dX9_tellOn_102 (by decide) ?_
              refine lv_iadd hx hb dX9_tellOn_104 ?_
              refine z_top (y := nI (7 * q + 6)) (z_add _ _) ?_
              refine lv_iload_n hx hb dX9_tellOn_105 rfl (lv_at hl 0 rfl) ?_
              refine z_iast (n := 36) (f := g) (j := 7 * q + 6) (x := f (25 + p)) Z hP hD hS 1 rfl (by omega) (by decide) dX9_tellOn_106 (fun H locs hP hD hS => ?_)
              have hP : va_P D vwCl [(M, .inr (9, [.int (nI 0), .ref mtx, .int (nI len), .int (nI pl), .int rt, .int fr, .int pr, .ref mod_, .int (nI n), .ref mne, .ref mro, .int (nI m), .int rrt, .int rfr, .int rpr, .ref mrod, .int (nI rn9), .ref mrne, .ref mrro, .int (nI rm9), .ref mrp, .ref mpg, .ref mbk, .int (nI (zna ac + 1)), .ref mke, .ref mik, .int (nI cr), .ref mrw, .ref mrd, .long sd, .ref mtr, .ref mwo, .ref mnx, .int jr])), (mpg, .inl (cI, 36, .inl (upd g (7 * q + 6) (f (25 + p))))), (mbk, .inl (cI, 432, .inl (znote g bk ac))), (mro, .inl (cI, 5, .inl md))] H := hP
              have hD : va_D A [(M, .inr (9, [.int (nI 0), .ref mtx, .int (nI len), .int (nI pl), .int rt, .int fr, .int pr, .ref mod_, .int (nI n), .ref mne, .ref mro, .int (nI m), .int rrt, .int rfr, .int rpr, .ref mrod, .int (nI rn9), .ref mrne, .ref mrro, .int (nI rm9), .ref mrp, .ref mpg, .ref mbk, .int (nI (zna ac + 1)), .ref mke, .ref mik, .int (nI cr), .ref mrw, .ref mrd, .long sd, .ref mtr, .ref mwo, .ref mnx, .int jr])), (mpg, .inl (cI, 36, .inl (upd g (7 * q + 6) (f (25 + p))))), (mbk, .inl (cI, 432, .inl (znote g bk ac))), (mro, .inl (cI, 5, .inl md))] := hD
              refine lv_iload_n hx hb dX9_tellOn_107 rfl (lv_at hl 0 rfl) ?_
              have e_27 : nI (zna ac + 1) = nI (zPa n (nI p) (fun p => zPa n (nI q) (fun q => if zTO f rd p q then zna ac + 1 else ac) ac) ac) := by first | rw [zPa_n (by assumption)] | (rw [zPa_y hp hn, zPa_n (by assumption)]) | (rw [zPa_y hp hn, zPa_y hq hn]; first | rw [if_pos ⟨by assumption, by assumption, ⟨by assumption, by assumption⟩⟩] | rw [if_neg (fun h => h.1 (by assumption))] | rw [if_neg (fun h => absurd h.2.1 (by assumption))] | rw [if_neg (fun h => absurd h.2.2.1 (by assumption))] | rw [if_neg (fun h => absurd h.2.2.2 (by assumption))]) | rfl
              have hP : va_P D vwCl [(M, .inr (9, [.int (nI 0), .ref mtx, .int (nI len), .int (nI pl), .int rt, .int fr, .int pr, .ref mod_, .int (nI n), .ref mne, .ref mro, .int (nI m), .int rrt, .int rfr, .int rpr, .ref mrod, .int (nI rn9), .ref mrne, .ref mrro, .int (nI rm9), .ref mrp, .ref mpg, .ref mbk, .int (nI (zPa n (nI p) (fun p => zPa n (nI q) (fun q => if zTO f rd p q then zna ac + 1 else ac) ac) ac)), .ref mke, .ref mik, .int (nI cr), .ref mrw, .ref mrd, .long sd, .ref mtr, .ref mwo, .ref mnx, .int jr])), (mpg, .inl (cI, 36, .inl (upd g (7 * q + 6) (f (25 + p))))), (mbk, .inl (cI, 432, .inl (znote g bk ac))), (mro, .inl (cI, 5, .inl md))] H := Eq.subst (motive := fun zz_ => va_P D vwCl [(M, .inr (9, [.int (nI 0), .ref mtx, .int (nI len), .int (nI pl), .int rt, .int fr, .int pr, .ref mod_, .int (nI n), .ref mne, .ref mro, .int (nI m), .int rrt, .int rfr, .int rpr, .ref mrod, .int (nI rn9), .ref mrne, .ref mrro, .int (nI rm9), .ref mrp, .ref mpg, .ref mbk, .int zz_, .ref mke, .ref mik, .int (nI cr), .ref mrw, .ref mrd, .long sd, .ref mtr, .ref mwo, .ref mnx, .int jr])), (mpg, .inl (cI, 36, .inl (upd g (7 * q + 6) (f (25 + p))))), (mbk, .inl (cI, 432, .inl (znote g bk ac))), (mro, .inl (cI, 5, .inl md))] H) e_27 hP
              have e_28 : upd g (7 * q + 6) (f (25 + p)) = (zPa n (nI p) (fun p => zPa n (nI q) (fun q => if zTO f rd p q then upd g (7 * q + 6) (f (25 + p)) else g) g) g) := by first | rw [zPa_n (by assumption)] | (rw [zPa_y hp hn, zPa_n (by assumption)]) | (rw [zPa_y hp hn, zPa_y hq hn]; first | rw [if_pos ⟨by assumption, by assumption, ⟨by assumption, by assumption⟩⟩] | rw [if_neg (fun h => h.1 (by assumption))] | rw [if_neg (fun h => absurd h.2.1 (by assumption))] | rw [if_neg (fun h => absurd h.2.2.1 (by assumption))] | rw [if_neg (fun h => absurd h.2.2.2 (by assumption))]) | rfl
              have hP : va_P D vwCl [(M, .inr (9, [.int (nI 0), .ref mtx, .int (nI len), .int (nI pl), .int rt, .int fr, .int pr, .ref mod_, .int (nI n), .ref mne, .ref mro, .int (nI m), .int rrt, .int rfr, .int rpr, .ref mrod, .int (nI rn9), .ref mrne, .ref mrro, .int (nI rm9), .ref mrp, .ref mpg, .ref mbk, .int (nI (zPa n (nI p) (fun p => zPa n (nI q) (fun q => if zTO f rd p q then zna ac + 1 else ac) ac) ac)), .ref mke, .ref mik, .int (nI cr), .ref mrw, .ref mrd, .long sd, .ref mtr, .ref mwo, .ref mnx, .int jr])), (mpg, .inl (cI, 36, .inl (zPa n (nI p) (fun p => zPa n (nI q) (fun q => if zTO f rd p q then upd g (7 * q + 6) (f (25 + p)) else g) g) g))), (mbk, .inl (cI, 432, .inl (znote g bk ac))), (mro, .inl (cI, 5, .inl md))] H := Eq.subst (motive := fun zz_ => va_P D vwCl [(M, .inr (9, [.int (nI 0), .ref mtx, .int (nI len), .int (nI pl), .int rt, .int fr, .int pr, .ref mod_, .int (nI n), .ref mne, .ref mro, .int (nI m), .int rrt, .int rfr, .int rpr, .ref mrod, .int (nI rn9), .ref mrne, .ref mrro, .int (nI rm9), .ref mrp, .ref mpg, .ref mbk, .int (nI (zPa n (nI p) (fun p => zPa n (nI q) (fun q => if zTO f rd p q then zna ac + 1 else ac) ac) ac)), .ref mke, .ref mik, .int (nI cr), .ref mrw, .ref mrd, .long sd, .ref mtr, .ref mwo, .ref mnx, .int jr])), (mpg, .inl (cI, 36, .inl zz_)), (mbk, .inl (cI, 432, .inl (znote g bk ac))), (mro, .inl (cI, 5, .inl md))] H) e_28 hP
              have e_29 : znote g bk ac = (zPa n (nI p) (fun p => zPa n (nI q) (fun q => if zTO f rd p q then znote g bk ac else bk) bk) bk) := by first | rw [zPa_n (by assumption)] | (rw [zPa_y hp hn, zPa_n (by assumption)]) | (rw [zPa_y hp hn, zPa_y hq hn]; first | rw [if_pos ⟨by assumption, by assumption, ⟨by assumption, by assumption⟩⟩] | rw [if_neg (fun h => h.1 (by assumption))] | rw [if_neg (fun h => absurd h.2.1 (by assumption))] | rw [if_neg (fun h => absurd h.2.2.1 (by assumption))] | rw [if_neg (fun h => absurd h.2.2.2 (by assumption))]) | rfl
              have hP : va_P D vwCl [(M, .inr (9, [.int (nI 0), .ref mtx, .int (nI len), .int (nI pl), .int rt, .int fr, .int pr, .ref mod_, .int (nI n), .ref mne, .ref mro, .int (nI m), .int rrt, .int rfr, .int rpr, .ref mrod, .int (nI rn9), .ref mrne, .ref mrro, .int (nI rm9), .ref mrp, .ref mpg, .ref mbk, .int (nI (zPa n (nI p) (fun p => zPa n (nI q) (fun q => if zTO f rd p q then zna ac + 1 else ac) ac) ac)), .ref mke, .ref mik, .int (nI cr), .ref mrw, .ref mrd, .long sd, .ref mtr, .ref mwo, .ref mnx, .int jr])), (mpg, .inl (cI, 36, .inl (zPa n (nI p) (fun p => zPa n (nI q) (fun q => if zTO f rd p q then upd g (7 * q + 6) (f (25 + p)) else g) g) g))), (mbk, .inl (cI, 432, .inl (zPa n (nI p) (fun p => zPa n (nI q) (fun q => if zTO f rd p q then znote g bk ac else bk) bk) bk))), (mro, .inl (cI, 5, .inl md))] H := Eq.subst (motive := fun zz_ => va_P D vwCl [(M, .inr (9, [.int (nI 0), .ref mtx, .int (nI len), .int (nI pl), .int rt, .int fr, .int pr, .ref mod_, .int (nI n), .ref mne, .ref mro, .int (nI m), .int rrt, .int rfr, .int rpr, .ref mrod, .int (nI rn9), .ref mrne, .ref mrro, .int (nI rm9), .ref mrp, .ref mpg, .ref mbk, .int (nI (zPa n (nI p) (fun p => zPa n (nI q) (fun q => if zTO f rd p q then zna ac + 1 else ac) ac) ac)), .ref mke, .ref mik, .int (nI cr), .ref mrw, .ref mrd, .long sd, .ref mtr, .ref mwo, .ref mnx, .int jr])), (mpg, .inl (cI, 36, .inl (zPa n (nI p) (fun p => zPa n (nI q) (fun q => if zTO f rd p q then upd g (7 * q + 6) (f (25 + p)) else g) g) g))), (mbk, .inl (cI, 432, .inl zz_)), (mro, .inl (cI, 5, .inl md))] H) e_29 hP
              have hD : va_D A [(M, .inr (9, [.int (nI 0), .ref mtx, .int (nI len), .int (nI pl), .int rt, .int fr, .int pr, .ref mod_, .int (nI n), .ref mne, .ref mro, .int (nI m), .int rrt, .int rfr, .int rpr, .ref mrod, .int (nI rn9), .ref mrne, .ref mrro, .int (nI rm9), .ref mrp, .ref mpg, .ref mbk, .int (nI (zPa n (nI p) (fun p => zPa n (nI q) (fun q => if zTO f rd p q then zna ac + 1 else ac) ac) ac)), .ref mke, .ref mik, .int (nI cr), .ref mrw, .ref mrd, .long sd, .ref mtr, .ref mwo, .ref mnx, .int jr])), (mpg, .inl (cI, 36, .inl (zPa n (nI p) (fun p => zPa n (nI q) (fun q => if zTO f rd p q then upd g (7 * q + 6) (f (25 + p)) else g) g) g))), (mbk, .inl (cI, 432, .inl (zPa n (nI p) (fun p => zPa n (nI q) (fun q => if zTO f rd p q then znote g bk ac else bk) bk) bk))), (mro, .inl (cI, 5, .inl md))] := zD_of hD rfl
              exact z_iret Z () (by first | rw [zPa_n (by assumption)] | (rw [zPa_y hp hn, zPa_n (by assumption)]) | (rw [zPa_y hp hn, zPa_y hq hn]; first | rw [if_pos ⟨by assumption, by assumption, ⟨by assumption, by assumption⟩⟩] | rw [if_neg (fun h => h.1 (by assumption))] | rw [if_neg (fun h => absurd h.2.1 (by assumption))] | rw [if_neg (fun h => absurd h.2.2.1 (by assumption))] | rw [if_neg (fun h => absurd h.2.2.2 (by assumption))]) | rfl) hP hS dX9_tellOn_108
            · have c_24 : ¬ ((f (30 + q)) = (-9)) := c_24
              refine lv_bipush (v := -3) hx hb dX9_tellOn_87 (by decide) ?_
              have e_30 : nI ac = nI (zPa n (nI p) (fun p => zPa n (nI q) (fun q => if zTO f rd p q then zna ac + 1 else ac) ac) ac) := by first | rw [zPa_n (by assumption)] | (rw [zPa_y hp hn, zPa_n (by assumption)]) | (rw [zPa_y hp hn, zPa_y hq hn]; first | rw [if_pos ⟨by assumption, by assumption, ⟨by assumption, by assumption⟩⟩] | rw [if_neg (fun h => h.1 (by assumption))] | rw [if_neg (fun h => absurd h.2.1 (by assumption))] | rw [if_neg (fun h => absurd h.2.2.1 (by assumption))] | rw [if_neg (fun h => absurd h.2.2.2 (by assumption))]) | rfl
              have hP : va_P D vwCl [(M, .inr (9, [.int (nI 0), .ref mtx, .int (nI len), .int (nI pl), .int rt, .int fr, .int pr, .ref mod_, .int (nI n), .ref mne, .ref mro, .int (nI m), .int rrt, .int rfr, .int rpr, .ref mrod, .int (nI rn9), .ref mrne, .ref mrro, .int (nI rm9), .ref mrp, .ref mpg, .ref mbk, .int (nI (zPa n (nI p) (fun p => zPa n (nI q) (fun q => if zTO f rd p q then zna ac + 1 else ac) ac) ac)), .ref mke, .ref mik, .int (nI cr), .ref mrw, .ref mrd, .long sd, .ref mtr, .ref mwo, .ref mnx, .int jr])), (mpg, .inl (cI, 36, .inl g)), (mbk, .inl (cI, 432, .inl bk)), (mro, .inl (cI, 5, .inl md))] H := Eq.subst (motive := fun zz_ => va_P D vwCl [(M, .inr (9, [.int (nI 0), .ref mtx, .int (nI len), .int (nI pl), .int rt, .int fr, .int pr, .ref mod_, .int (nI n), .ref mne, .ref mro, .int (nI m), .int rrt, .int rfr, .int rpr, .ref mrod, .int (nI rn9), .ref mrne, .ref mrro, .int (nI rm9), .ref mrp, .ref mpg, .ref mbk, .int zz_, .ref mke, .ref mik, .int (nI cr), .ref mrw, .ref mrd, .long sd, .ref mtr, .ref mwo, .ref mnx, .int jr])), (mpg, .inl (cI, 36, .inl g)), (mbk, .inl (cI, 432, .inl bk)), (mro, .inl (cI, 5, .inl md))] H) e_30 hP
              have e_31 : g = (zPa n (nI p) (fun p => zPa n (nI q) (fun q => if zTO f rd p q then upd g (7 * q + 6) (f (25 + p)) else g) g) g) := by first | rw [zPa_n (by assumption)] | (rw [zPa_y hp hn, zPa_n (by assumption)]) | (rw [zPa_y hp hn, zPa_y hq hn]; first | rw [if_pos ⟨by assumption, by assumption, ⟨by assumption, by assumption⟩⟩] | rw [if_neg (fun h => h.1 (by assumption))] | rw [if_neg (fun h => absurd h.2.1 (by assumption))] | rw [if_neg (fun h => absurd h.2.2.1 (by assumption))] | rw [if_neg (fun h => absurd h.2.2.2 (by assumption))]) | rfl
              have hP : va_P D vwCl [(M, .inr (9, [.int (nI 0), .ref mtx, .int (nI len), .int (nI pl), .int rt, .int fr, .int pr, .ref mod_, .int (nI n), .ref mne, .ref mro, .int (nI m), .int rrt, .int rfr, .int rpr, .ref mrod, .int (nI rn9), .ref mrne, .ref mrro, .int (nI rm9), .ref mrp, .ref mpg, .ref mbk, .int (nI (zPa n (nI p) (fun p => zPa n (nI q) (fun q => if zTO f rd p q then zna ac + 1 else ac) ac) ac)), .ref mke, .ref mik, .int (nI cr), .ref mrw, .ref mrd, .long sd, .ref mtr, .ref mwo, .ref mnx, .int jr])), (mpg, .inl (cI, 36, .inl (zPa n (nI p) (fun p => zPa n (nI q) (fun q => if zTO f rd p q then upd g (7 * q + 6) (f (25 + p)) else g) g) g))), (mbk, .inl (cI, 432, .inl bk)), (mro, .inl (cI, 5, .inl md))] H := Eq.subst (motive := fun zz_ => va_P D vwCl [(M, .inr (9, [.int (nI 0), .ref mtx, .int (nI len), .int (nI pl), .int rt, .int fr, .int pr, .ref mod_, .int (nI n), .ref mne, .ref mro, .int (nI m), .int rrt, .int rfr, .int rpr, .ref mrod, .int (nI rn9), .ref mrne, .ref mrro, .int (nI rm9), .ref mrp, .ref mpg, .ref mbk, .int (nI (zPa n (nI p) (fun p => zPa n (nI q) (fun q => if zTO f rd p q then zna ac + 1 else ac) ac) ac)), .ref mke, .ref mik, .int (nI cr), .ref mrw, .ref mrd, .long sd, .ref mtr, .ref mwo, .ref mnx, .int jr])), (mpg, .inl (cI, 36, .inl zz_)), (mbk, .inl (cI, 432, .inl bk)), (mro, .inl (cI, 5, .inl md))] H) e_31 hP
              have e_32 : bk = (zPa n (nI p) (fun p => zPa n (nI q) (fun q => if zTO f rd p q then znote g bk ac else bk) bk) bk) := by first | rw [zPa_n (by assumption)] | (rw [zPa_y hp hn, zPa_n (by assumption)]) | (rw [zPa_y hp hn, zPa_y hq hn]; first | rw [if_pos ⟨by assumption, by assumption, ⟨by assumption, by assumption⟩⟩] | rw [if_neg (fun h => h.1 (by assumption))] | rw [if_neg (fun h => absurd h.2.1 (by assumption))] | rw [if_neg (fun h => absurd h.2.2.1 (by assumption))] | rw [if_neg (fun h => absurd h.2.2.2 (by assumption))]) | rfl
              have hP : va_P D vwCl [(M, .inr (9, [.int (nI 0), .ref mtx, .int (nI len), .int (nI pl), .int rt, .int fr, .int pr, .ref mod_, .int (nI n), .ref mne, .ref mro, .int (nI m), .int rrt, .int rfr, .int rpr, .ref mrod, .int (nI rn9), .ref mrne, .ref mrro, .int (nI rm9), .ref mrp, .ref mpg, .ref mbk, .int (nI (zPa n (nI p) (fun p => zPa n (nI q) (fun q => if zTO f rd p q then zna ac + 1 else ac) ac) ac)), .ref mke, .ref mik, .int (nI cr), .ref mrw, .ref mrd, .long sd, .ref mtr, .ref mwo, .ref mnx, .int jr])), (mpg, .inl (cI, 36, .inl (zPa n (nI p) (fun p => zPa n (nI q) (fun q => if zTO f rd p q then upd g (7 * q + 6) (f (25 + p)) else g) g) g))), (mbk, .inl (cI, 432, .inl (zPa n (nI p) (fun p => zPa n (nI q) (fun q => if zTO f rd p q then znote g bk ac else bk) bk) bk))), (mro, .inl (cI, 5, .inl md))] H := Eq.subst (motive := fun zz_ => va_P D vwCl [(M, .inr (9, [.int (nI 0), .ref mtx, .int (nI len), .int (nI pl), .int rt, .int fr, .int pr, .ref mod_, .int (nI n), .ref mne, .ref mro, .int (nI m), .int rrt, .int rfr, .int rpr, .ref mrod, .int (nI rn9), .ref mrne, .ref mrro, .int (nI rm9), .ref mrp, .ref mpg, .ref mbk, .int (nI (zPa n (nI p) (fun p => zPa n (nI q) (fun q => if zTO f rd p q then zna ac + 1 else ac) ac) ac)), .ref mke, .ref mik, .int (nI cr), .ref mrw, .ref mrd, .long sd, .ref mtr, .ref mwo, .ref mnx, .int jr])), (mpg, .inl (cI, 36, .inl (zPa n (nI p) (fun p => zPa n (nI q) (fun q => if zTO f rd p q then upd g (7 * q + 6) (f (25 + p)) else g) g) g))), (mbk, .inl (cI, 432, .inl zz_)), (mro, .inl (cI, 5, .inl md))] H) e_32 hP
              have hD : va_D A [(M, .inr (9, [.int (nI 0), .ref mtx, .int (nI len), .int (nI pl), .int rt, .int fr, .int pr, .ref mod_, .int (nI n), .ref mne, .ref mro, .int (nI m), .int rrt, .int rfr, .int rpr, .ref mrod, .int (nI rn9), .ref mrne, .ref mrro, .int (nI rm9), .ref mrp, .ref mpg, .ref mbk, .int (nI (zPa n (nI p) (fun p => zPa n (nI q) (fun q => if zTO f rd p q then zna ac + 1 else ac) ac) ac)), .ref mke, .ref mik, .int (nI cr), .ref mrw, .ref mrd, .long sd, .ref mtr, .ref mwo, .ref mnx, .int jr])), (mpg, .inl (cI, 36, .inl (zPa n (nI p) (fun p => zPa n (nI q) (fun q => if zTO f rd p q then upd g (7 * q + 6) (f (25 + p)) else g) g) g))), (mbk, .inl (cI, 432, .inl (zPa n (nI p) (fun p => zPa n (nI q) (fun q => if zTO f rd p q then znote g bk ac else bk) bk) bk))), (mro, .inl (cI, 5, .inl md))] := zD_of hD rfl
              exact z_iret Z () (by first | rw [zPa_n (by assumption)] | (rw [zPa_y hp hn, zPa_n (by assumption)]) | (rw [zPa_y hp hn, zPa_y hq hn]; first | rw [if_pos ⟨by assumption, by assumption, ⟨by assumption, by assumption⟩⟩] | rw [if_neg (fun h => h.1 (by assumption))] | rw [if_neg (fun h => absurd h.2.1 (by assumption))] | rw [if_neg (fun h => absurd h.2.2.1 (by assumption))] | rw [if_neg (fun h => absurd h.2.2.2 (by assumption))]) | rfl) hP hS dX9_tellOn_89
    · have c_9 := zb1 c_9
      refine lv_iconst (v := -1) hx hb dX9_tellOn_21 (by decide) ?_
      have e_33 : nI ac = nI (zPa n (nI p) (fun p => zPa n x2 (fun q => if zTO f rd p q then zna ac + 1 else ac) ac) ac) := by first | rw [zPa_n (by assumption)] | (rw [zPa_y hp hn, zPa_n (by assumption)]) | (rw [zPa_y hp hn, zPa_y hq hn]; first | rw [if_pos ⟨by assumption, by assumption, ⟨by assumption, by assumption⟩⟩] | rw [if_neg (fun h => h.1 (by assumption))] | rw [if_neg (fun h => absurd h.2.1 (by assumption))] | rw [if_neg (fun h => absurd h.2.2.1 (by assumption))] | rw [if_neg (fun h => absurd h.2.2.2 (by assumption))]) | rfl
      have hP : va_P D vwCl [(M, .inr (9, [.int (nI 0), .ref mtx, .int (nI len), .int (nI pl), .int rt, .int fr, .int pr, .ref mod_, .int (nI n), .ref mne, .ref mro, .int (nI m), .int rrt, .int rfr, .int rpr, .ref mrod, .int (nI rn9), .ref mrne, .ref mrro, .int (nI rm9), .ref mrp, .ref mpg, .ref mbk, .int (nI (zPa n (nI p) (fun p => zPa n x2 (fun q => if zTO f rd p q then zna ac + 1 else ac) ac) ac)), .ref mke, .ref mik, .int (nI cr), .ref mrw, .ref mrd, .long sd, .ref mtr, .ref mwo, .ref mnx, .int jr])), (mpg, .inl (cI, 36, .inl g)), (mbk, .inl (cI, 432, .inl bk)), (mro, .inl (cI, 5, .inl md))] H := Eq.subst (motive := fun zz_ => va_P D vwCl [(M, .inr (9, [.int (nI 0), .ref mtx, .int (nI len), .int (nI pl), .int rt, .int fr, .int pr, .ref mod_, .int (nI n), .ref mne, .ref mro, .int (nI m), .int rrt, .int rfr, .int rpr, .ref mrod, .int (nI rn9), .ref mrne, .ref mrro, .int (nI rm9), .ref mrp, .ref mpg, .ref mbk, .int zz_, .ref mke, .ref mik, .int (nI cr), .ref mrw, .ref mrd, .long sd, .ref mtr, .ref mwo, .ref mnx, .int jr])), (mpg, .inl (cI, 36, .inl g)), (mbk, .inl (cI, 432, .inl bk)), (mro, .inl (cI, 5, .inl md))] H) e_33 hP
      have e_34 : g = (zPa n (nI p) (fun p => zPa n x2 (fun q => if zTO f rd p q then upd g (7 * q + 6) (f (25 + p)) else g) g) g) := by first | rw [zPa_n (by assumption)] | (rw [zPa_y hp hn, zPa_n (by assumption)]) | (rw [zPa_y hp hn, zPa_y hq hn]; first | rw [if_pos ⟨by assumption, by assumption, ⟨by assumption, by assumption⟩⟩] | rw [if_neg (fun h => h.1 (by assumption))] | rw [if_neg (fun h => absurd h.2.1 (by assumption))] | rw [if_neg (fun h => absurd h.2.2.1 (by assumption))] | rw [if_neg (fun h => absurd h.2.2.2 (by assumption))]) | rfl
      have hP : va_P D vwCl [(M, .inr (9, [.int (nI 0), .ref mtx, .int (nI len), .int (nI pl), .int rt, .int fr, .int pr, .ref mod_, .int (nI n), .ref mne, .ref mro, .int (nI m), .int rrt, .int rfr, .int rpr, .ref mrod, .int (nI rn9), .ref mrne, .ref mrro, .int (nI rm9), .ref mrp, .ref mpg, .ref mbk, .int (nI (zPa n (nI p) (fun p => zPa n x2 (fun q => if zTO f rd p q then zna ac + 1 else ac) ac) ac)), .ref mke, .ref mik, .int (nI cr), .ref mrw, .ref mrd, .long sd, .ref mtr, .ref mwo, .ref mnx, .int jr])), (mpg, .inl (cI, 36, .inl (zPa n (nI p) (fun p => zPa n x2 (fun q => if zTO f rd p q then upd g (7 * q + 6) (f (25 + p)) else g) g) g))), (mbk, .inl (cI, 432, .inl bk)), (mro, .inl (cI, 5, .inl md))] H := Eq.subst (motive := fun zz_ => va_P D vwCl [(M, .inr (9, [.int (nI 0), .ref mtx, .int (nI len), .int (nI pl), .int rt, .int fr, .int pr, .ref mod_, .int (nI n), .ref mne, .ref mro, .int (nI m), .int rrt, .int rfr, .int rpr, .ref mrod, .int (nI rn9), .ref mrne, .ref mrro, .int (nI rm9), .ref mrp, .ref mpg, .ref mbk, .int (nI (zPa n (nI p) (fun p => zPa n x2 (fun q => if zTO f rd p q then zna ac + 1 else ac) ac) ac)), .ref mke, .ref mik, .int (nI cr), .ref mrw, .ref mrd, .long sd, .ref mtr, .ref mwo, .ref mnx, .int jr])), (mpg, .inl (cI, 36, .inl zz_)), (mbk, .inl (cI, 432, .inl bk)), (mro, .inl (cI, 5, .inl md))] H) e_34 hP
      have e_35 : bk = (zPa n (nI p) (fun p => zPa n x2 (fun q => if zTO f rd p q then znote g bk ac else bk) bk) bk) := by first | rw [zPa_n (by assumption)] | (rw [zPa_y hp hn, zPa_n (by assumption)]) | (rw [zPa_y hp hn, zPa_y hq hn]; first | rw [if_pos ⟨by assumption, by assumption, ⟨by assumption, by assumption⟩⟩] | rw [if_neg (fun h => h.1 (by assumption))] | rw [if_neg (fun h => absurd h.2.1 (by assumption))] | rw [if_neg (fun h => absurd h.2.2.1 (by assumption))] | rw [if_neg (fun h => absurd h.2.2.2 (by assumption))]) | rfl
      have hP : va_P D vwCl [(M, .inr (9, [.int (nI 0), .ref mtx, .int (nI len), .int (nI pl), .int rt, .int fr, .int pr, .ref mod_, .int (nI n), .ref mne, .ref mro, .int (nI m), .int rrt, .int rfr, .int rpr, .ref mrod, .int (nI rn9), .ref mrne, .ref mrro, .int (nI rm9), .ref mrp, .ref mpg, .ref mbk, .int (nI (zPa n (nI p) (fun p => zPa n x2 (fun q => if zTO f rd p q then zna ac + 1 else ac) ac) ac)), .ref mke, .ref mik, .int (nI cr), .ref mrw, .ref mrd, .long sd, .ref mtr, .ref mwo, .ref mnx, .int jr])), (mpg, .inl (cI, 36, .inl (zPa n (nI p) (fun p => zPa n x2 (fun q => if zTO f rd p q then upd g (7 * q + 6) (f (25 + p)) else g) g) g))), (mbk, .inl (cI, 432, .inl (zPa n (nI p) (fun p => zPa n x2 (fun q => if zTO f rd p q then znote g bk ac else bk) bk) bk))), (mro, .inl (cI, 5, .inl md))] H := Eq.subst (motive := fun zz_ => va_P D vwCl [(M, .inr (9, [.int (nI 0), .ref mtx, .int (nI len), .int (nI pl), .int rt, .int fr, .int pr, .ref mod_, .int (nI n), .ref mne, .ref mro, .int (nI m), .int rrt, .int rfr, .int rpr, .ref mrod, .int (nI rn9), .ref mrne, .ref mrro, .int (nI rm9), .ref mrp, .ref mpg, .ref mbk, .int (nI (zPa n (nI p) (fun p => zPa n x2 (fun q => if zTO f rd p q then zna ac + 1 else ac) ac) ac)), .ref mke, .ref mik, .int (nI cr), .ref mrw, .ref mrd, .long sd, .ref mtr, .ref mwo, .ref mnx, .int jr])), (mpg, .inl (cI, 36, .inl (zPa n (nI p) (fun p => zPa n x2 (fun q => if zTO f rd p q then upd g (7 * q + 6) (f (25 + p)) else g) g) g))), (mbk, .inl (cI, 432, .inl zz_)), (mro, .inl (cI, 5, .inl md))] H) e_35 hP
      have hD : va_D A [(M, .inr (9, [.int (nI 0), .ref mtx, .int (nI len), .int (nI pl), .int rt, .int fr, .int pr, .ref mod_, .int (nI n), .ref mne, .ref mro, .int (nI m), .int rrt, .int rfr, .int rpr, .ref mrod, .int (nI rn9), .ref mrne, .ref mrro, .int (nI rm9), .ref mrp, .ref mpg, .ref mbk, .int (nI (zPa n (nI p) (fun p => zPa n x2 (fun q => if zTO f rd p q then zna ac + 1 else ac) ac) ac)), .ref mke, .ref mik, .int (nI cr), .ref mrw, .ref mrd, .long sd, .ref mtr, .ref mwo, .ref mnx, .int jr])), (mpg, .inl (cI, 36, .inl (zPa n (nI p) (fun p => zPa n x2 (fun q => if zTO f rd p q then upd g (7 * q + 6) (f (25 + p)) else g) g) g))), (mbk, .inl (cI, 432, .inl (zPa n (nI p) (fun p => zPa n x2 (fun q => if zTO f rd p q then znote g bk ac else bk) bk) bk))), (mro, .inl (cI, 5, .inl md))] := zD_of hD rfl
      exact z_iret Z () (by first | rw [zPa_n (by assumption)] | (rw [zPa_y hp hn, zPa_n (by assumption)]) | (rw [zPa_y hp hn, zPa_y hq hn]; first | rw [if_pos ⟨by assumption, by assumption, ⟨by assumption, by assumption⟩⟩] | rw [if_neg (fun h => h.1 (by assumption))] | rw [if_neg (fun h => absurd h.2.1 (by assumption))] | rw [if_neg (fun h => absurd h.2.2.1 (by assumption))] | rw [if_neg (fun h => absurd h.2.2.2 (by assumption))]) | rfl) hP hS dX9_tellOn_22

theorem dX9_event_0 : decode cX9_event 0 = .ok (.aload_n 0, 1) := by decide +kernel
theorem dX9_event_1 : decode cX9_event 1 = .ok (.iconst 0, 1) := by decide +kernel
theorem dX9_event_2 : decode cX9_event 2 = .ok (.putfield 62, 3) := by decide +kernel
theorem dX9_event_5 : decode cX9_event 5 = .ok (.iload_n 1, 1) := by decide +kernel
theorem dX9_event_6 : decode cX9_event 6 = .ok (.invokestatic 164, 3) := by decide +kernel
theorem dX9_event_9 : decode cX9_event 9 = .ok (.ifCond .eq 6, 3) := by decide +kernel
theorem dX9_event_12 : decode cX9_event 12 = .ok (.bipush (-2), 2) := by decide +kernel
theorem dX9_event_14 : decode cX9_event 14 = .ok (.ireturn, 1) := by decide +kernel
theorem dX9_event_15 : decode cX9_event 15 = .ok (.aload_n 0, 1) := by decide +kernel
theorem dX9_event_16 : decode cX9_event 16 = .ok (.invokevirtual 167, 3) := by decide +kernel
theorem dX9_event_19 : decode cX9_event 19 = .ok (.aload_n 0, 1) := by decide +kernel
theorem dX9_event_20 : decode cX9_event 20 = .ok (.aload_n 0, 1) := by decide +kernel
theorem dX9_event_21 : decode cX9_event 21 = .ok (.getfield 34, 3) := by decide +kernel
theorem dX9_event_24 : decode cX9_event 24 = .ok (.iload_n 1, 1) := by decide +kernel
theorem dX9_event_25 : decode cX9_event 25 = .ok (.invokevirtual 170, 3) := by decide +kernel
theorem dX9_event_28 : decode cX9_event 28 = .ok (.ireturn, 1) := by decide +kernel
theorem zd_X9_event : yX9_event.cls ≠ "java/lang/invoke/MethodHandle" ∧ yX9_event.cls ≠ "java/lang/invoke/VarHandle" ∧ (parseMethodDescriptor yX9_event.desc).map (fun d => d.parameters.length) = some 1 := by decide +kernel
set_option maxHeartbeats 4000000 in
set_option maxRecDepth 100000 in
theorem zc_X9_event (l : Launch) (D : va_G) (cI cZ : ClassId) (M : Nat) (th : Int32) (mtx : Nat) (len : Nat) (pl : Nat) (rt : Int32) (fr : Int32) (pr : Int32) (mod_ : Nat) (n : Nat) (mne : Nat) (mro : Nat) (m : Nat) (rrt : Int32) (rfr : Int32) (rpr : Int32) (mrod : Nat) (rn9 : Nat) (mrne : Nat) (mrro : Nat) (rm9 : Nat) (mrp : Nat) (mpg : Nat) (mbk : Nat) (ac : Nat) (mke : Nat) (mik : Nat) (cr : Nat) (mrw : Nat) (mrd : Nat) (sd : Int64) (mtr : Nat) (mwo : Nat) (mnx : Nat) (jr : Int32) (g : Nat → Int32) (bk : Nat → Int32) (f : Nat → Int32) (x1 : Int32) (hn : n ≤ 5) (hpg : zpr n f g) (hpv : zpv n f) (hac : ac ≤ 12) : zI l yX9_event cX9_event 2 .int 3 74 D cI cZ [.ref M, .int x1] [(M, .inr (9, [.int th, .ref mtx, .int (nI len), .int (nI pl), .int rt, .int fr, .int pr, .ref mod_, .int (nI n), .ref mne, .ref mro, .int (nI m), .int rrt, .int rfr, .int rpr, .ref mrod, .int (nI rn9), .ref mrne, .ref mrro, .int (nI rm9), .ref mrp, .ref mpg, .ref mbk, .int (nI ac), .ref mke, .ref mik, .int (nI cr), .ref mrw, .ref mrd, .long sd, .ref mtr, .ref mwo, .ref mnx, .int jr])), (mpg, .inl (cI, 36, .inl g)), (mbk, .inl (cI, 432, .inl bk))] (fun (r : Int32) (u : (Nat → Int32)) => (r = zKa x1 (fun k => zcs f rt fr k n) (-2)) ∧ (zpr n (zKa x1 (fun k => zcome f rt fr n k) f) u)) (fun (u : (Nat → Int32)) => [(M, .inr (9, [.int (nI 0), .ref mtx, .int (nI len), .int (nI pl), .int rt, .int fr, .int pr, .ref mod_, .int (nI n), .ref mne, .ref mro, .int (nI m), .int rrt, .int rfr, .int rpr, .ref mrod, .int (nI rn9), .ref mrne, .ref mrro, .int (nI rm9), .ref mrp, .ref mpg, .ref mbk, .int (nI (zKa x1 (fun k => zna ac + 1) ac)), .ref mke, .ref mik, .int (nI cr), .ref mrw, .ref mrd, .long sd, .ref mtr, .ref mwo, .ref mnx, .int jr])), (mpg, .inl (cI, 36, .inl u)), (mbk, .inl (cI, 432, .inl (zKa x1 (fun k => znote g bk ac) bk)))]) := by
  refine zI_of (by decide) (Nat.le_of_ble_eq_true rfl) ?_
  intro pP eE sS mM aA bB mT cC A ls Z hP hD hS hl
  have hx := Z.1
  have hb := Z.2.1
  have hown := Z.2.2.2.2.2.1
  have hts := Z.2.2.2.2.1
  have Z : zAt pP sS mM aA mT cC D cI cZ A "SurpriseTaxModel" cX9_event 2 (some .int) := Z
  have hl : lv_has ls 2 [(0, .ref M), (1, .int x1)] := hl
  obtain ⟨H, hH⟩ : ∃ H, H = sS.heap := ⟨_, rfl⟩
  have hP : va_P D vwCl [(M, .inr (9, [.int th, .ref mtx, .int (nI len), .int (nI pl), .int rt, .int fr, .int pr, .ref mod_, .int (nI n), .ref mne, .ref mro, .int (nI m), .int rrt, .int rfr, .int rpr, .ref mrod, .int (nI rn9), .ref mrne, .ref mrro, .int (nI rm9), .ref mrp, .ref mpg, .ref mbk, .int (nI ac), .ref mke, .ref mik, .int (nI cr), .ref mrw, .ref mrd, .long sd, .ref mtr, .ref mwo, .ref mnx, .int jr])), (mpg, .inl (cI, 36, .inl g)), (mbk, .inl (cI, 432, .inl bk))] H := by rw [hH]; exact hP
  have hS : va_S A sS.heap H [] := by rw [hH]; exact hS
  rw [← hH]
  clear hH
  obtain ⟨locs, hlo⟩ : ∃ q : List Loc, q = [] := ⟨_, rfl⟩
  rw [← hlo] at hS ⊢
  clear hlo
  refine lv_aload_n hx hb dX9_event_0 rfl (lv_at hl 0 rfl) ?_
  refine lv_iconst (v := nI 0) hx hb dX9_event_1 (by decide) ?_
  refine z_put (ci := 9) (v := .int (nI 0)) Z zin9 tyX9 tyX9_ok nmX9 hP hD hS 0 rfl rfl 0 (by decide) zm677 rfl rfl rfl rfl (Nat.le_of_ble_eq_true rfl) dX9_event_2 (fun H locs hP hD hS => ?_)
  have hP : va_P D vwCl [(M, .inr (9, [.int (nI 0), .ref mtx, .int (nI len), .int (nI pl), .int rt, .int fr, .int pr, .ref mod_, .int (nI n), .ref mne, .ref mro, .int (nI m), .int rrt, .int rfr, .int rpr, .ref mrod, .int (nI rn9), .ref mrne, .ref mrro, .int (nI rm9), .ref mrp, .ref mpg, .ref mbk, .int (nI ac), .ref mke, .ref mik, .int (nI cr), .ref mrw, .ref mrd, .long sd, .ref mtr, .ref mwo, .ref mnx, .int jr])), (mpg, .inl (cI, 36, .inl g)), (mbk, .inl (cI, 432, .inl bk))] H := hP
  have hD : va_D A [(M, .inr (9, [.int (nI 0), .ref mtx, .int (nI len), .int (nI pl), .int rt, .int fr, .int pr, .ref mod_, .int (nI n), .ref mne, .ref mro, .int (nI m), .int rrt, .int rfr, .int rpr, .ref mrod, .int (nI rn9), .ref mrne, .ref mrro, .int (nI rm9), .ref mrp, .ref mpg, .ref mbk, .int (nI ac), .ref mke, .ref mik, .int (nI cr), .ref mrw, .ref mrd, .long sd, .ref mtr, .ref mwo, .ref mnx, .int jr])), (mpg, .inl (cI, 36, .inl g)), (mbk, .inl (cI, 432, .inl bk))] := hD
  refine lv_iload_n hx hb dX9_event_5 rfl (lv_at hl 1 rfl) ?_
  refine z_callSi (As := [.int x1]) (rest := []) Z hP hD hS hl.1 (zc_X9_noKind l D cI cZ x1 ) zm806 zm807 zm39 zm808 zd_X9_noKind ⟨Nat.le_of_ble_eq_true rfl, Nat.le_of_ble_eq_true rfl⟩ ⟨Nat.zero_le _, Nat.zero_le _⟩ [] rfl (by decide) (fun _ => rfl) rfl (Nat.le_of_ble_eq_true rfl) rfl dX9_event_6 (fun r_1 u H locs h_2 hP hD hS => ?_)
  have hP : va_P D vwCl [(M, .inr (9, [.int (nI 0), .ref mtx, .int (nI len), .int (nI pl), .int rt, .int fr, .int pr, .ref mod_, .int (nI n), .ref mne, .ref mro, .int (nI m), .int rrt, .int rfr, .int rpr, .ref mrod, .int (nI rn9), .ref mrne, .ref mrro, .int (nI rm9), .ref mrp, .ref mpg, .ref mbk, .int (nI ac), .ref mke, .ref mik, .int (nI cr), .ref mrw, .ref mrd, .long sd, .ref mtr, .ref mwo, .ref mnx, .int jr])), (mpg, .inl (cI, 36, .inl g)), (mbk, .inl (cI, 432, .inl bk))] H := hP
  have hD : va_D A [(M, .inr (9, [.int (nI 0), .ref mtx, .int (nI len), .int (nI pl), .int rt, .int fr, .int pr, .ref mod_, .int (nI n), .ref mne, .ref mro, .int (nI m), .int rrt, .int rfr, .int rpr, .ref mrod, .int (nI rn9), .ref mrne, .ref mrro, .int (nI rm9), .ref mrp, .ref mpg, .ref mbk, .int (nI ac), .ref mke, .ref mik, .int (nI cr), .ref mrw, .ref mrd, .long sd, .ref mtr, .ref mwo, .ref mnx, .int jr])), (mpg, .inl (cI, 36, .inl g)), (mbk, .inl (cI, 432, .inl bk))] := hD
  have h_2 : r_1 = if ¬ zkind x1 then 1 else 0 := h_2
  subst h_2
  refine lv_if_eq (tgt := 15) hx hb dX9_event_9 (by decide) (fun c_3 => ?_) (fun c_3 => ?_)
  · have c_3 := zb0 c_3
    have hzk := Classical.not_not.mp c_3
    obtain ⟨k, hk, rfl⟩ := zkind_of hzk
    refine lv_aload_n hx hb dX9_event_15 rfl (lv_at hl 0 rfl) ?_
    refine z_callVv (As := []) (rest := []) (ci := 9) (k0 := 0) Z hP hD hS hl.1 (zc_X9_note l D cI cZ M (nI 0) mtx len pl rt fr pr mod_ n mne mro m rrt rfr rpr mrod rn9 mrne mrro rm9 mrp mpg mbk ac mke mik cr mrw mrd sd mtr mwo mnx jr g bk (by omega)) zm809 zm810 zm20 zm39 zm811 ⟨rfl, zd_X9_note⟩ ⟨Nat.le_of_ble_eq_true rfl, Nat.le_of_ble_eq_true rfl⟩ ⟨Nat.zero_le _, Nat.zero_le _⟩ [0, 1, 2] rfl (by decide) rfl rfl rfl (fun _ => rfl) rfl (Nat.le_of_ble_eq_true rfl) rfl dX9_event_16 (fun u H locs h_5 hP hD hS => ?_)
    have hP : va_P D vwCl [(M, .inr (9, [.int (nI 0), .ref mtx, .int (nI len), .int (nI pl), .int rt, .int fr, .int pr, .ref mod_, .int (nI n), .ref mne, .ref mro, .int (nI m), .int rrt, .int rfr, .int rpr, .ref mrod, .int (nI rn9), .ref mrne, .ref mrro, .int (nI rm9), .ref mrp, .ref mpg, .ref mbk, .int (nI (zna ac + 1)), .ref mke, .ref mik, .int (nI cr), .ref mrw, .ref mrd, .long sd, .ref mtr, .ref mwo, .ref mnx, .int jr])), (mpg, .inl (cI, 36, .inl g)), (mbk, .inl (cI, 432, .inl (znote g bk ac)))] H := hP
    have hD : va_D A [(M, .inr (9, [.int (nI 0), .ref mtx, .int (nI len), .int (nI pl), .int rt, .int fr, .int pr, .ref mod_, .int (nI n), .ref mne, .ref mro, .int (nI m), .int rrt, .int rfr, .int rpr, .ref mrod, .int (nI rn9), .ref mrne, .ref mrro, .int (nI rm9), .ref mrp, .ref mpg, .ref mbk, .int (nI (zna ac + 1)), .ref mke, .ref mik, .int (nI cr), .ref mrw, .ref mrd, .long sd, .ref mtr, .ref mwo, .ref mnx, .int jr])), (mpg, .inl (cI, 36, .inl g)), (mbk, .inl (cI, 432, .inl (znote g bk ac)))] := hD
    refine lv_aload_n hx hb dX9_event_19 rfl (lv_at hl 0 rfl) ?_
    refine lv_aload_n hx hb dX9_event_20 rfl (lv_at hl 0 rfl) ?_
    refine z_get (ci := 9) (v := .ref mpg) Z zin9 hP 0 rfl rfl 21 (by decide) zm698 rfl rfl dX9_event_21 ?_
    refine lv_iload_n hx hb dX9_event_24 rfl (lv_at hl 1 rfl) ?_
    refine z_callVi (As := [.ref mpg, .int (nI k)]) (rest := []) (ci := 9) (k0 := 0) Z hP hD hS hl.1 (zc_X9_goEvent l D cI cZ M (nI 0) mtx len pl rt fr pr mod_ n mne mro m rrt rfr rpr mrod rn9 mrne mrro rm9 mrp mpg mbk (zna ac + 1) mke mik cr mrw mrd sd mtr mwo mnx jr mpg g f k (by first | omega | assumption) (by first | omega | assumption) (by first | omega | assumption) (by first | omega | assumption)) zm820 zm821 zm21 zm39 zm822 ⟨rfl, zd_X9_goEvent⟩ ⟨Nat.le_of_ble_eq_true rfl, Nat.le_of_ble_eq_true rfl⟩ ⟨Nat.zero_le _, Nat.zero_le _⟩ [0, 1] rfl (by decide) rfl rfl rfl (fun _ => rfl) rfl (Nat.le_of_ble_eq_true rfl) rfl dX9_event_25 (fun r_6 u H locs h_7 hP hD hS => ?_)
    obtain ⟨g2_8, rfl⟩ : ∃ z, z = u := ⟨_, rfl⟩
    have hP : va_P D vwCl [(M, .inr (9, [.int (nI 0), .ref mtx, .int (nI len), .int (nI pl), .int rt, .int fr, .int pr, .ref mod_, .int (nI n), .ref mne, .ref mro, .int (nI m), .int rrt, .int rfr, .int rpr, .ref mrod, .int (nI rn9), .ref mrne, .ref mrro, .int (nI rm9), .ref mrp, .ref mpg, .ref mbk, .int (nI (zna ac + 1)), .ref mke, .ref mik, .int (nI cr), .ref mrw, .ref mrd, .long sd, .ref mtr, .ref mwo, .ref mnx, .int jr])), (mpg, .inl (cI, 36, .inl g2_8)), (mbk, .inl (cI, 432, .inl (znote g bk ac)))] H := hP
    have hD : va_D A [(M, .inr (9, [.int (nI 0), .ref mtx, .int (nI len), .int (nI pl), .int rt, .int fr, .int pr, .ref mod_, .int (nI n), .ref mne, .ref mro, .int (nI m), .int rrt, .int rfr, .int rpr, .ref mrod, .int (nI rn9), .ref mrne, .ref mrro, .int (nI rm9), .ref mrp, .ref mpg, .ref mbk, .int (nI (zna ac + 1)), .ref mke, .ref mik, .int (nI cr), .ref mrw, .ref mrd, .long sd, .ref mtr, .ref mwo, .ref mnx, .int jr])), (mpg, .inl (cI, 36, .inl g2_8)), (mbk, .inl (cI, 432, .inl (znote g bk ac)))] := hD
    obtain ⟨h_7_0, h_7_1⟩ := h_7
    have h_7_0 : r_6 = zcs f rt fr k n := h_7_0
    subst h_7_0
    have h_7_1 : zpr n (zcome f rt fr n k) g2_8 := h_7_1
    have e_9 : nI (zna ac + 1) = nI (zKa (nI k) (fun k => zna ac + 1) ac) := by first | rw [zKa_n (by assumption)] | rw [zKa_y hk] | rfl
    have hP : va_P D vwCl [(M, .inr (9, [.int (nI 0), .ref mtx, .int (nI len), .int (nI pl), .int rt, .int fr, .int pr, .ref mod_, .int (nI n), .ref mne, .ref mro, .int (nI m), .int rrt, .int rfr, .int rpr, .ref mrod, .int (nI rn9), .ref mrne, .ref mrro, .int (nI rm9), .ref mrp, .ref mpg, .ref mbk, .int (nI (zKa (nI k) (fun k => zna ac + 1) ac)), .ref mke, .ref mik, .int (nI cr), .ref mrw, .ref mrd, .long sd, .ref mtr, .ref mwo, .ref mnx, .int jr])), (mpg, .inl (cI, 36, .inl g2_8)), (mbk, .inl (cI, 432, .inl (znote g bk ac)))] H := Eq.subst (motive := fun zz_ => va_P D vwCl [(M, .inr (9, [.int (nI 0), .ref mtx, .int (nI len), .int (nI pl), .int rt, .int fr, .int pr, .ref mod_, .int (nI n), .ref mne, .ref mro, .int (nI m), .int rrt, .int rfr, .int rpr, .ref mrod, .int (nI rn9), .ref mrne, .ref mrro, .int (nI rm9), .ref mrp, .ref mpg, .ref mbk, .int zz_, .ref mke, .ref mik, .int (nI cr), .ref mrw, .ref mrd, .long sd, .ref mtr, .ref mwo, .ref mnx, .int jr])), (mpg, .inl (cI, 36, .inl g2_8)), (mbk, .inl (cI, 432, .inl (znote g bk ac)))] H) e_9 hP
    have e_10 : znote g bk ac = (zKa (nI k) (fun k => znote g bk ac) bk) := by first | rw [zKa_n (by assumption)] | rw [zKa_y hk] | rfl
    have hP : va_P D vwCl [(M, .inr (9, [.int (nI 0), .ref mtx, .int (nI len), .int (nI pl), .int rt, .int fr, .int pr, .ref mod_, .int (nI n), .ref mne, .ref mro, .int (nI m), .int rrt, .int rfr, .int rpr, .ref mrod, .int (nI rn9), .ref mrne, .ref mrro, .int (nI rm9), .ref mrp, .ref mpg, .ref mbk, .int (nI (zKa (nI k) (fun k => zna ac + 1) ac)), .ref mke, .ref mik, .int (nI cr), .ref mrw, .ref mrd, .long sd, .ref mtr, .ref mwo, .ref mnx, .int jr])), (mpg, .inl (cI, 36, .inl g2_8)), (mbk, .inl (cI, 432, .inl (zKa (nI k) (fun k => znote g bk ac) bk)))] H := Eq.subst (motive := fun zz_ => va_P D vwCl [(M, .inr (9, [.int (nI 0), .ref mtx, .int (nI len), .int (nI pl), .int rt, .int fr, .int pr, .ref mod_, .int (nI n), .ref mne, .ref mro, .int (nI m), .int rrt, .int rfr, .int rpr, .ref mrod, .int (nI rn9), .ref mrne, .ref mrro, .int (nI rm9), .ref mrp, .ref mpg, .ref mbk, .int (nI (zKa (nI k) (fun k => zna ac + 1) ac)), .ref mke, .ref mik, .int (nI cr), .ref mrw, .ref mrd, .long sd, .ref mtr, .ref mwo, .ref mnx, .int jr])), (mpg, .inl (cI, 36, .inl g2_8)), (mbk, .inl (cI, 432, .inl zz_))] H) e_10 hP
    have hD : va_D A [(M, .inr (9, [.int (nI 0), .ref mtx, .int (nI len), .int (nI pl), .int rt, .int fr, .int pr, .ref mod_, .int (nI n), .ref mne, .ref mro, .int (nI m), .int rrt, .int rfr, .int rpr, .ref mrod, .int (nI rn9), .ref mrne, .ref mrro, .int (nI rm9), .ref mrp, .ref mpg, .ref mbk, .int (nI (zKa (nI k) (fun k => zna ac + 1) ac)), .ref mke, .ref mik, .int (nI cr), .ref mrw, .ref mrd, .long sd, .ref mtr, .ref mwo, .ref mnx, .int jr])), (mpg, .inl (cI, 36, .inl g2_8)), (mbk, .inl (cI, 432, .inl (zKa (nI k) (fun k => znote g bk ac) bk)))] := zD_of hD rfl
    exact z_iret Z (g2_8) ⟨(by first | rw [zKa_n (by assumption)] | rw [zKa_y hk] | rfl), (by first | (rw [zKa_n (by assumption)]; exact hpg) | (rw [zKa_y hk]; assumption))⟩ hP hS dX9_event_28
  · have c_3 := zb1 c_3
    refine lv_bipush (v := -2) hx hb dX9_event_12 (by decide) ?_
    have e_11 : nI ac = nI (zKa x1 (fun k => zna ac + 1) ac) := by first | rw [zKa_n (by assumption)] | rw [zKa_y hk] | rfl
    have hP : va_P D vwCl [(M, .inr (9, [.int (nI 0), .ref mtx, .int (nI len), .int (nI pl), .int rt, .int fr, .int pr, .ref mod_, .int (nI n), .ref mne, .ref mro, .int (nI m), .int rrt, .int rfr, .int rpr, .ref mrod, .int (nI rn9), .ref mrne, .ref mrro, .int (nI rm9), .ref mrp, .ref mpg, .ref mbk, .int (nI (zKa x1 (fun k => zna ac + 1) ac)), .ref mke, .ref mik, .int (nI cr), .ref mrw, .ref mrd, .long sd, .ref mtr, .ref mwo, .ref mnx, .int jr])), (mpg, .inl (cI, 36, .inl g)), (mbk, .inl (cI, 432, .inl bk))] H := Eq.subst (motive := fun zz_ => va_P D vwCl [(M, .inr (9, [.int (nI 0), .ref mtx, .int (nI len), .int (nI pl), .int rt, .int fr, .int pr, .ref mod_, .int (nI n), .ref mne, .ref mro, .int (nI m), .int rrt, .int rfr, .int rpr, .ref mrod, .int (nI rn9), .ref mrne, .ref mrro, .int (nI rm9), .ref mrp, .ref mpg, .ref mbk, .int zz_, .ref mke, .ref mik, .int (nI cr), .ref mrw, .ref mrd, .long sd, .ref mtr, .ref mwo, .ref mnx, .int jr])), (mpg, .inl (cI, 36, .inl g)), (mbk, .inl (cI, 432, .inl bk))] H) e_11 hP
    have e_12 : bk = (zKa x1 (fun k => znote g bk ac) bk) := by first | rw [zKa_n (by assumption)] | rw [zKa_y hk] | rfl
    have hP : va_P D vwCl [(M, .inr (9, [.int (nI 0), .ref mtx, .int (nI len), .int (nI pl), .int rt, .int fr, .int pr, .ref mod_, .int (nI n), .ref mne, .ref mro, .int (nI m), .int rrt, .int rfr, .int rpr, .ref mrod, .int (nI rn9), .ref mrne, .ref mrro, .int (nI rm9), .ref mrp, .ref mpg, .ref mbk, .int (nI (zKa x1 (fun k => zna ac + 1) ac)), .ref mke, .ref mik, .int (nI cr), .ref mrw, .ref mrd, .long sd, .ref mtr, .ref mwo, .ref mnx, .int jr])), (mpg, .inl (cI, 36, .inl g)), (mbk, .inl (cI, 432, .inl (zKa x1 (fun k => znote g bk ac) bk)))] H := Eq.subst (motive := fun zz_ => va_P D vwCl [(M, .inr (9, [.int (nI 0), .ref mtx, .int (nI len), .int (nI pl), .int rt, .int fr, .int pr, .ref mod_, .int (nI n), .ref mne, .ref mro, .int (nI m), .int rrt, .int rfr, .int rpr, .ref mrod, .int (nI rn9), .ref mrne, .ref mrro, .int (nI rm9), .ref mrp, .ref mpg, .ref mbk, .int (nI (zKa x1 (fun k => zna ac + 1) ac)), .ref mke, .ref mik, .int (nI cr), .ref mrw, .ref mrd, .long sd, .ref mtr, .ref mwo, .ref mnx, .int jr])), (mpg, .inl (cI, 36, .inl g)), (mbk, .inl (cI, 432, .inl zz_))] H) e_12 hP
    have hD : va_D A [(M, .inr (9, [.int (nI 0), .ref mtx, .int (nI len), .int (nI pl), .int rt, .int fr, .int pr, .ref mod_, .int (nI n), .ref mne, .ref mro, .int (nI m), .int rrt, .int rfr, .int rpr, .ref mrod, .int (nI rn9), .ref mrne, .ref mrro, .int (nI rm9), .ref mrp, .ref mpg, .ref mbk, .int (nI (zKa x1 (fun k => zna ac + 1) ac)), .ref mke, .ref mik, .int (nI cr), .ref mrw, .ref mrd, .long sd, .ref mtr, .ref mwo, .ref mnx, .int jr])), (mpg, .inl (cI, 36, .inl g)), (mbk, .inl (cI, 432, .inl (zKa x1 (fun k => znote g bk ac) bk)))] := zD_of hD rfl
    exact z_iret Z (g) ⟨(by first | rw [zKa_n (by assumption)] | rw [zKa_y hk] | rfl), (by first | (rw [zKa_n (by assumption)]; exact hpg) | (rw [zKa_y hk]; assumption))⟩ hP hS dX9_event_14

theorem dX9_undo_0 : decode cX9_undo 0 = .ok (.aload_n 0, 1) := by decide +kernel
theorem dX9_undo_1 : decode cX9_undo 1 = .ok (.iconst 0, 1) := by decide +kernel
theorem dX9_undo_2 : decode cX9_undo 2 = .ok (.putfield 62, 3) := by decide +kernel
theorem dX9_undo_5 : decode cX9_undo 5 = .ok (.aload_n 0, 1) := by decide +kernel
theorem dX9_undo_6 : decode cX9_undo 6 = .ok (.getfield 137, 3) := by decide +kernel
theorem dX9_undo_9 : decode cX9_undo 9 = .ok (.ifCond .ne 6, 3) := by decide +kernel
theorem dX9_undo_12 : decode cX9_undo 12 = .ok (.bipush (-3), 2) := by decide +kernel
theorem dX9_undo_14 : decode cX9_undo 14 = .ok (.ireturn, 1) := by decide +kernel
theorem dX9_undo_15 : decode cX9_undo 15 = .ok (.aload_n 0, 1) := by decide +kernel
theorem dX9_undo_16 : decode cX9_undo 16 = .ok (.dup, 1) := by decide +kernel
theorem dX9_undo_17 : decode cX9_undo 17 = .ok (.getfield 137, 3) := by decide +kernel
theorem dX9_undo_20 : decode cX9_undo 20 = .ok (.iconst 1, 1) := by decide +kernel
theorem dX9_undo_21 : decode cX9_undo 21 = .ok (.isub, 1) := by decide +kernel
theorem dX9_undo_22 : decode cX9_undo 22 = .ok (.putfield 137, 3) := by decide +kernel
theorem dX9_undo_25 : decode cX9_undo 25 = .ok (.iconst 0, 1) := by decide +kernel
theorem dX9_undo_26 : decode cX9_undo 26 = .ok (.istore_n 1, 1) := by decide +kernel
theorem dX9_undo_27 : decode cX9_undo 27 = .ok (.iload_n 1, 1) := by decide +kernel
theorem dX9_undo_28 : decode cX9_undo 28 = .ok (.bipush 36, 2) := by decide +kernel
theorem dX9_undo_30 : decode cX9_undo 30 = .ok (.if_icmp .ge 29, 3) := by decide +kernel
theorem dX9_undo_33 : decode cX9_undo 33 = .ok (.aload_n 0, 1) := by decide +kernel
theorem dX9_undo_34 : decode cX9_undo 34 = .ok (.getfield 34, 3) := by decide +kernel
theorem dX9_undo_37 : decode cX9_undo 37 = .ok (.iload_n 1, 1) := by decide +kernel
theorem dX9_undo_38 : decode cX9_undo 38 = .ok (.aload_n 0, 1) := by decide +kernel
theorem dX9_undo_39 : decode cX9_undo 39 = .ok (.getfield 37, 3) := by decide +kernel
theorem dX9_undo_42 : decode cX9_undo 42 = .ok (.bipush 36, 2) := by decide +kernel
theorem dX9_undo_44 : decode cX9_undo 44 = .ok (.aload_n 0, 1) := by decide +kernel
theorem dX9_undo_45 : decode cX9_undo 45 = .ok (.getfield 137, 3) := by decide +kernel
theorem dX9_undo_48 : decode cX9_undo 48 = .ok (.imul, 1) := by decide +kernel
theorem dX9_undo_49 : decode cX9_undo 49 = .ok (.iload_n 1, 1) := by decide +kernel
theorem dX9_undo_50 : decode cX9_undo 50 = .ok (.iadd, 1) := by decide +kernel
theorem dX9_undo_51 : decode cX9_undo 51 = .ok (.iaload, 1) := by decide +kernel
theorem dX9_undo_52 : decode cX9_undo 52 = .ok (.iastore, 1) := by decide +kernel
theorem dX9_undo_53 : decode cX9_undo 53 = .ok (.iinc 1 1, 3) := by decide +kernel
theorem dX9_undo_56 : decode cX9_undo 56 = .ok (.goto (-29), 3) := by decide +kernel
theorem dX9_undo_59 : decode cX9_undo 59 = .ok (.aload_n 0, 1) := by decide +kernel
theorem dX9_undo_60 : decode cX9_undo 60 = .ok (.getfield 137, 3) := by decide +kernel
theorem dX9_undo_63 : decode cX9_undo 63 = .ok (.ireturn, 1) := by decide +kernel
theorem zd_X9_undo : yX9_undo.cls ≠ "java/lang/invoke/MethodHandle" ∧ yX9_undo.cls ≠ "java/lang/invoke/VarHandle" ∧ (parseMethodDescriptor yX9_undo.desc).map (fun d => d.parameters.length) = some 0 := by decide +kernel
set_option maxHeartbeats 4000000 in
set_option maxRecDepth 100000 in
theorem zc_X9_undo (l : Launch) (D : va_G) (cI cZ : ClassId) (M : Nat) (th : Int32) (mtx : Nat) (len : Nat) (pl : Nat) (rt : Int32) (fr : Int32) (pr : Int32) (mod_ : Nat) (n : Nat) (mne : Nat) (mro : Nat) (m : Nat) (rrt : Int32) (rfr : Int32) (rpr : Int32) (mrod : Nat) (rn9 : Nat) (mrne : Nat) (mrro : Nat) (rm9 : Nat) (mrp : Nat) (mpg : Nat) (mbk : Nat) (ac : Nat) (mke : Nat) (mik : Nat) (cr : Nat) (mrw : Nat) (mrd : Nat) (sd : Int64) (mtr : Nat) (mwo : Nat) (mnx : Nat) (jr : Int32) (g : Nat → Int32) (bk : Nat → Int32) (hac : ac ≤ 12) : zI l yX9_undo cX9_undo 2 .int 0 0 D cI cZ [.ref M] [(M, .inr (9, [.int th, .ref mtx, .int (nI len), .int (nI pl), .int rt, .int fr, .int pr, .ref mod_, .int (nI n), .ref mne, .ref mro, .int (nI m), .int rrt, .int rfr, .int rpr, .ref mrod, .int (nI rn9), .ref mrne, .ref mrro, .int (nI rm9), .ref mrp, .ref mpg, .ref mbk, .int (nI ac), .ref mke, .ref mik, .int (nI cr), .ref mrw, .ref mrd, .long sd, .ref mtr, .ref mwo, .ref mnx, .int jr])), (mpg, .inl (cI, 36, .inl g)), (mbk, .inl (cI, 432, .inl bk))] (fun (r : Int32) (u : Unit) => r = if ac = 0 then -3 else nI (ac - 1)) (fun (u : Unit) => [(M, .inr (9, [.int (nI 0), .ref mtx, .int (nI len), .int (nI pl), .int rt, .int fr, .int pr, .ref mod_, .int (nI n), .ref mne, .ref mro, .int (nI m), .int rrt, .int rfr, .int rpr, .ref mrod, .int (nI rn9), .ref mrne, .ref mrro, .int (nI rm9), .ref mrp, .ref mpg, .ref mbk, .int (nI (ac - 1)), .ref mke, .ref mik, .int (nI cr), .ref mrw, .ref mrd, .long sd, .ref mtr, .ref mwo, .ref mnx, .int jr])), (mpg, .inl (cI, 36, .inl (if ac = 0 then g else va_cpy bk g (36 * (ac - 1)) 0 36))), (mbk, .inl (cI, 432, .inl bk))]) := by
  refine zI_of (by decide) (Nat.le_of_ble_eq_true rfl) ?_
  intro pP eE sS mM aA bB mT cC A ls Z hP hD hS hl
  have hx := Z.1
  have hb := Z.2.1
  have hown := Z.2.2.2.2.2.1
  have hts := Z.2.2.2.2.1
  have Z : zAt pP sS mM aA mT cC D cI cZ A "SurpriseTaxModel" cX9_undo 2 (some .int) := Z
  have hl : lv_has ls 2 [(0, .ref M)] := hl
  obtain ⟨H, hH⟩ : ∃ H, H = sS.heap := ⟨_, rfl⟩
  have hP : va_P D vwCl [(M, .inr (9, [.int th, .ref mtx, .int (nI len), .int (nI pl), .int rt, .int fr, .int pr, .ref mod_, .int (nI n), .ref mne, .ref mro, .int (nI m), .int rrt, .int rfr, .int rpr, .ref mrod, .int (nI rn9), .ref mrne, .ref mrro, .int (nI rm9), .ref mrp, .ref mpg, .ref mbk, .int (nI ac), .ref mke, .ref mik, .int (nI cr), .ref mrw, .ref mrd, .long sd, .ref mtr, .ref mwo, .ref mnx, .int jr])), (mpg, .inl (cI, 36, .inl g)), (mbk, .inl (cI, 432, .inl bk))] H := by rw [hH]; exact hP
  have hS : va_S A sS.heap H [] := by rw [hH]; exact hS
  rw [← hH]
  clear hH
  obtain ⟨locs, hlo⟩ : ∃ q : List Loc, q = [] := ⟨_, rfl⟩
  rw [← hlo] at hS ⊢
  clear hlo
  refine lv_aload_n hx hb dX9_undo_0 rfl (lv_at hl 0 rfl) ?_
  refine lv_iconst (v := nI 0) hx hb dX9_undo_1 (by decide) ?_
  refine z_put (ci := 9) (v := .int (nI 0)) Z zin9 tyX9 tyX9_ok nmX9 hP hD hS 0 rfl rfl 0 (by decide) zm677 rfl rfl rfl rfl (Nat.le_of_ble_eq_true rfl) dX9_undo_2 (fun H locs hP hD hS => ?_)
  have hP : va_P D vwCl [(M, .inr (9, [.int (nI 0), .ref mtx, .int (nI len), .int (nI pl), .int rt, .int fr, .int pr, .ref mod_, .int (nI n), .ref mne, .ref mro, .int (nI m), .int rrt, .int rfr, .int rpr, .ref mrod, .int (nI rn9), .ref mrne, .ref mrro, .int (nI rm9), .ref mrp, .ref mpg, .ref mbk, .int (nI ac), .ref mke, .ref mik, .int (nI cr), .ref mrw, .ref mrd, .long sd, .ref mtr, .ref mwo, .ref mnx, .int jr])), (mpg, .inl (cI, 36, .inl g)), (mbk, .inl (cI, 432, .inl bk))] H := hP
  have hD : va_D A [(M, .inr (9, [.int (nI 0), .ref mtx, .int (nI len), .int (nI pl), .int rt, .int fr, .int pr, .ref mod_, .int (nI n), .ref mne, .ref mro, .int (nI m), .int rrt, .int rfr, .int rpr, .ref mrod, .int (nI rn9), .ref mrne, .ref mrro, .int (nI rm9), .ref mrp, .ref mpg, .ref mbk, .int (nI ac), .ref mke, .ref mik, .int (nI cr), .ref mrw, .ref mrd, .long sd, .ref mtr, .ref mwo, .ref mnx, .int jr])), (mpg, .inl (cI, 36, .inl g)), (mbk, .inl (cI, 432, .inl bk))] := hD
  refine lv_aload_n hx hb dX9_undo_5 rfl (lv_at hl 0 rfl) ?_
  refine z_get (ci := 9) (v := .int (nI ac)) Z zin9 hP 0 rfl rfl 23 (by decide) zm700 rfl rfl dX9_undo_6 ?_
  refine lv_if_ne (tgt := 15) hx hb dX9_undo_9 (by decide) (fun c_1 => ?_) (fun c_1 => ?_)
  · have c_1 := zne (i := ac) (j := 0) c_1
    refine lv_aload_n hx hb dX9_undo_15 rfl (lv_at hl 0 rfl) ?_
    refine lv_dup hx hb dX9_undo_16 rfl ?_
    refine z_get (ci := 9) (v := .int (nI ac)) Z zin9 hP 0 rfl rfl 23 (by decide) zm700 rfl rfl dX9_undo_17 ?_
    refine lv_iconst (v := nI 1) hx hb dX9_undo_20 (by decide) ?_
    refine lv_isub hx hb dX9_undo_21 ?_
    refine z_top (y := nI (ac - 1)) (z_sub' (by omega)) ?_
    refine z_put (ci := 9) (v := .int (nI (ac - 1))) Z zin9 tyX9 tyX9_ok nmX9 hP hD hS 0 rfl rfl 23 (by decide) zm700 rfl rfl rfl rfl (Nat.le_of_ble_eq_true rfl) dX9_undo_22 (fun H locs hP hD hS => ?_)
    have hP : va_P D vwCl [(M, .inr (9, [.int (nI 0), .ref mtx, .int (nI len), .int (nI pl), .int rt, .int fr, .int pr, .ref mod_, .int (nI n), .ref mne, .ref mro, .int (nI m), .int rrt, .int rfr, .int rpr, .ref mrod, .int (nI rn9), .ref mrne, .ref mrro, .int (nI rm9), .ref mrp, .ref mpg, .ref mbk, .int (nI (ac - 1)), .ref mke, .ref mik, .int (nI cr), .ref mrw, .ref mrd, .long sd, .ref mtr, .ref mwo, .ref mnx, .int jr])), (mpg, .inl (cI, 36, .inl g)), (mbk, .inl (cI, 432, .inl bk))] H := hP
    have hD : va_D A [(M, .inr (9, [.int (nI 0), .ref mtx, .int (nI len), .int (nI pl), .int rt, .int fr, .int pr, .ref mod_, .int (nI n), .ref mne, .ref mro, .int (nI m), .int rrt, .int rfr, .int rpr, .ref mrod, .int (nI rn9), .ref mrne, .ref mrro, .int (nI rm9), .ref mrp, .ref mpg, .ref mbk, .int (nI (ac - 1)), .ref mke, .ref mik, .int (nI cr), .ref mrw, .ref mrd, .long sd, .ref mtr, .ref mwo, .ref mnx, .int jr])), (mpg, .inl (cI, 36, .inl g)), (mbk, .inl (cI, 432, .inl bk))] := hD
    refine lv_iconst (v := nI 0) hx hb dX9_undo_25 (by decide) ?_
    refine lv_istore_n (lv' := [(1, .int (nI 0)), (0, .ref M)]) hx hb dX9_undo_26 rfl hl (by decide) rfl (fun ls hl => ?_)
    have e_3 : g = va_cpy bk g (36 * (ac - 1)) 0 0 := by first | rw [zcpyT_0] | rfl
    have hP : va_P D vwCl [(M, .inr (9, [.int (nI 0), .ref mtx, .int (nI len), .int (nI pl), .int rt, .int fr, .int pr, .ref mod_, .int (nI n), .ref mne, .ref mro, .int (nI m), .int rrt, .int rfr, .int rpr, .ref mrod, .int (nI rn9), .ref mrne, .ref mrro, .int (nI rm9), .ref mrp, .ref mpg, .ref mbk, .int (nI (ac - 1)), .ref mke, .ref mik, .int (nI cr), .ref mrw, .ref mrd, .long sd, .ref mtr, .ref mwo, .ref mnx, .int jr])), (mpg, .inl (cI, 36, .inl (va_cpy bk g (36 * (ac - 1)) 0 0))), (mbk, .inl (cI, 432, .inl bk))] H := Eq.subst (motive := fun zz_ => va_P D vwCl [(M, .inr (9, [.int (nI 0), .ref mtx, .int (nI len), .int (nI pl), .int rt, .int fr, .int pr, .ref mod_, .int (nI n), .ref mne, .ref mro, .int (nI m), .int rrt, .int rfr, .int rpr, .ref mrod, .int (nI rn9), .ref mrne, .ref mrro, .int (nI rm9), .ref mrp, .ref mpg, .ref mbk, .int (nI (ac - 1)), .ref mke, .ref mik, .int (nI cr), .ref mrw, .ref mrd, .long sd, .ref mtr, .ref mwo, .ref mnx, .int jr])), (mpg, .inl (cI, 36, .inl zz_)), (mbk, .inl (cI, 432, .inl bk))] H) e_3 hP
    have hD : va_D A [(M, .inr (9, [.int (nI 0), .ref mtx, .int (nI len), .int (nI pl), .int rt, .int fr, .int pr, .ref mod_, .int (nI n), .ref mne, .ref mro, .int (nI m), .int rrt, .int rfr, .int rpr, .ref mrod, .int (nI rn9), .ref mrne, .ref mrro, .int (nI rm9), .ref mrp, .ref mpg, .ref mbk, .int (nI (ac - 1)), .ref mke, .ref mik, .int (nI cr), .ref mrw, .ref mrd, .long sd, .ref mtr, .ref mwo, .ref mnx, .int jr])), (mpg, .inl (cI, 36, .inl (va_cpy bk g (36 * (ac - 1)) 0 0))), (mbk, .inl (cI, 432, .inl bk))] := zD_of hD rfl
    have hl : lv_has ls 2 [(1, .int (nI 0)), (0, .ref M)] := lv_sub hl [0, 1] rfl
    refine z_loop (fun i H locs ls => va_P D vwCl [(M, .inr (9, [.int (nI 0), .ref mtx, .int (nI len), .int (nI pl), .int rt, .int fr, .int pr, .ref mod_, .int (nI n), .ref mne, .ref mro, .int (nI m), .int rrt, .int rfr, .int rpr, .ref mrod, .int (nI rn9), .ref mrne, .ref mrro, .int (nI rm9), .ref mrp, .ref mpg, .ref mbk, .int (nI (ac - 1)), .ref mke, .ref mik, .int (nI cr), .ref mrw, .ref mrd, .long sd, .ref mtr, .ref mwo, .ref mnx, .int jr])), (mpg, .inl (cI, 36, .inl (va_cpy bk g (36 * (ac - 1)) 0 i))), (mbk, .inl (cI, 432, .inl bk))] H ∧ va_D A [(M, .inr (9, [.int (nI 0), .ref mtx, .int (nI len), .int (nI pl), .int rt, .int fr, .int pr, .ref mod_, .int (nI n), .ref mne, .ref mro, .int (nI m), .int rrt, .int rfr, .int rpr, .ref mrod, .int (nI rn9), .ref mrne, .ref mrro, .int (nI rm9), .ref mrp, .ref mpg, .ref mbk, .int (nI (ac - 1)), .ref mke, .ref mik, .int (nI cr), .ref mrw, .ref mrd, .long sd, .ref mtr, .ref mwo, .ref mnx, .int jr])), (mpg, .inl (cI, 36, .inl (va_cpy bk g (36 * (ac - 1)) 0 i))), (mbk, .inl (cI, 432, .inl bk))] ∧ va_S A sS.heap H locs ∧ lv_has ls 2 [(1, .int (nI i)), (0, .ref M)]) (36) (lo := 0) (by omega) ⟨hP, hD, hS, hl⟩ (fun i hi_i ih_2 H locs ls hI => ?_)
    obtain ⟨hP, hD, hS, hl⟩ := hI
    have hP : va_P D vwCl [(M, .inr (9, [.int (nI 0), .ref mtx, .int (nI len), .int (nI pl), .int rt, .int fr, .int pr, .ref mod_, .int (nI n), .ref mne, .ref mro, .int (nI m), .int rrt, .int rfr, .int rpr, .ref mrod, .int (nI rn9), .ref mrne, .ref mrro, .int (nI rm9), .ref mrp, .ref mpg, .ref mbk, .int (nI (ac - 1)), .ref mke, .ref mik, .int (nI cr), .ref mrw, .ref mrd, .long sd, .ref mtr, .ref mwo, .ref mnx, .int jr])), (mpg, .inl (cI, 36, .inl (va_cpy bk g (36 * (ac - 1)) 0 i))), (mbk, .inl (cI, 432, .inl bk))] H := hP
    have hD : va_D A [(M, .inr (9, [.int (nI 0), .ref mtx, .int (nI len), .int (nI pl), .int rt, .int fr, .int pr, .ref mod_, .int (nI n), .ref mne, .ref mro, .int (nI m), .int rrt, .int rfr, .int rpr, .ref mrod, .int (nI rn9), .ref mrne, .ref mrro, .int (nI rm9), .ref mrp, .ref mpg, .ref mbk, .int (nI (ac - 1)), .ref mke, .ref mik, .int (nI cr), .ref mrw, .ref mrd, .long sd, .ref mtr, .ref mwo, .ref mnx, .int jr])), (mpg, .inl (cI, 36, .inl (va_cpy bk g (36 * (ac - 1)) 0 i))), (mbk, .inl (cI, 432, .inl bk))] := hD
    have hl : lv_has ls 2 [(1, .int (nI i)), (0, .ref M)] := hl
    refine lv_iload_n hx hb dX9_undo_27 rfl (lv_at hl 0 rfl) ?_
    refine lv_bipush (v := nI 36) hx hb dX9_undo_28 (by decide) ?_
    refine lv_icmp_ge (tgt := 59) hx hb dX9_undo_30 (by decide) (fun c_4 => ?_) (fun c_4 => ?_)
    · have c_4 := zle (i := 36) (j := i) (by decide) (by omega) c_4
      have hE_ : 36 = i := by omega
      subst hE_
      refine lv_aload_n hx hb dX9_undo_59 rfl (lv_at hl 1 rfl) ?_
      refine z_get (ci := 9) (v := .int (nI (ac - 1))) Z zin9 hP 0 rfl rfl 23 (by decide) zm700 rfl rfl dX9_undo_60 ?_
      have e_5 : va_cpy bk g (36 * (ac - 1)) 0 36 = (if ac = 0 then g else va_cpy bk g (36 * (ac - 1)) 0 36) := by first | rw [if_pos (by assumption)] | rw [if_neg (by assumption)] | exact congrArg nI (by omega)
      have hP : va_P D vwCl [(M, .inr (9, [.int (nI 0), .ref mtx, .int (nI len), .int (nI pl), .int rt, .int fr, .int pr, .ref mod_, .int (nI n), .ref mne, .ref mro, .int (nI m), .int rrt, .int rfr, .int rpr, .ref mrod, .int (nI rn9), .ref mrne, .ref mrro, .int (nI rm9), .ref mrp, .ref mpg, .ref mbk, .int (nI (ac - 1)), .ref mke, .ref mik, .int (nI cr), .ref mrw, .ref mrd, .long sd, .ref mtr, .ref mwo, .ref mnx, .int jr])), (mpg, .inl (cI, 36, .inl (if ac = 0 then g else va_cpy bk g (36 * (ac - 1)) 0 36))), (mbk, .inl (cI, 432, .inl bk))] H := Eq.subst (motive := fun zz_ => va_P D vwCl [(M, .inr (9, [.int (nI 0), .ref mtx, .int (nI len), .int (nI pl), .int rt, .int fr, .int pr, .ref mod_, .int (nI n), .ref mne, .ref mro, .int (nI m), .int rrt, .int rfr, .int rpr, .ref mrod, .int (nI rn9), .ref mrne, .ref mrro, .int (nI rm9), .ref mrp, .ref mpg, .ref mbk, .int (nI (ac - 1)), .ref mke, .ref mik, .int (nI cr), .ref mrw, .ref mrd, .long sd, .ref mtr, .ref mwo, .ref mnx, .int jr])), (mpg, .inl (cI, 36, .inl zz_)), (mbk, .inl (cI, 432, .inl bk))] H) e_5 hP
      have hD : va_D A [(M, .inr (9, [.int (nI 0), .ref mtx, .int (nI len), .int (nI pl), .int rt, .int fr, .int pr, .ref mod_, .int (nI n), .ref mne, .ref mro, .int (nI m), .int rrt, .int rfr, .int rpr, .ref mrod, .int (nI rn9), .ref mrne, .ref mrro, .int (nI rm9), .ref mrp, .ref mpg, .ref mbk, .int (nI (ac - 1)), .ref mke, .ref mik, .int (nI cr), .ref mrw, .ref mrd, .long sd, .ref mtr, .ref mwo, .ref mnx, .int jr])), (mpg, .inl (cI, 36, .inl (if ac = 0 then g else va_cpy bk g (36 * (ac - 1)) 0 36))), (mbk, .inl (cI, 432, .inl bk))] := zD_of hD rfl
      exact z_iret Z () (by first | rw [if_pos (by assumption)] | rw [if_neg (by assumption)] | exact congrArg nI (by omega)) hP hS dX9_undo_63
    · have c_4 := znle (i := 36) (j := i) (by decide) (by omega) c_4
      refine lv_aload_n hx hb dX9_undo_33 rfl (lv_at hl 1 rfl) ?_
      refine z_get (ci := 9) (v := .ref mpg) Z zin9 hP 0 rfl rfl 21 (by decide) zm698 rfl rfl dX9_undo_34 ?_
      refine lv_iload_n hx hb dX9_undo_37 rfl (lv_at hl 0 rfl) ?_
      refine lv_aload_n hx hb dX9_undo_38 rfl (lv_at hl 1 rfl) ?_
      refine z_get (ci := 9) (v := .ref mbk) Z zin9 hP 0 rfl rfl 22 (by decide) zm699 rfl rfl dX9_undo_39 ?_
      refine lv_bipush (v := nI 36) hx hb dX9_undo_42 (by decide) ?_
      refine lv_aload_n hx hb dX9_undo_44 rfl (lv_at hl 1 rfl) ?_
      refine z_get (ci := 9) (v := .int (nI (ac - 1))) Z zin9 hP 0 rfl rfl 23 (by decide) zm700 rfl rfl dX9_undo_45 ?_
      refine lv_imul hx hb dX9_undo_48 ?_
      refine z_top (y := nI (36 * (ac - 1))) (z_mul _ _) ?_
      refine lv_iload_n hx hb dX9_undo_49 rfl (lv_at hl 0 rfl) ?_
      refine lv_iadd hx hb dX9_undo_50 ?_
      refine z_top (y := nI (36 * (ac - 1) + i)) (z_add _ _) ?_
      refine z_iald (n := 432) (f := bk) (j := 36 * (ac - 1) + i) Z hP 2 rfl (by omega) (by decide) dX9_undo_51 ?_
      refine z_iast (n := 36) (f := va_cpy bk g (36 * (ac - 1)) 0 i) (j := i) (x := bk (36 * (ac - 1) + i)) Z hP hD hS 1 rfl (by omega) (by decide) dX9_undo_52 (fun H locs hP hD hS => ?_)
      have hP : va_P D vwCl [(M, .inr (9, [.int (nI 0), .ref mtx, .int (nI len), .int (nI pl), .int rt, .int fr, .int pr, .ref mod_, .int (nI n), .ref mne, .ref mro, .int (nI m), .int rrt, .int rfr, .int rpr, .ref mrod, .int (nI rn9), .ref mrne, .ref mrro, .int (nI rm9), .ref mrp, .ref mpg, .ref mbk, .int (nI (ac - 1)), .ref mke, .ref mik, .int (nI cr), .ref mrw, .ref mrd, .long sd, .ref mtr, .ref mwo, .ref mnx, .int jr])), (mpg, .inl (cI, 36, .inl (upd (va_cpy bk g (36 * (ac - 1)) 0 i) i (bk (36 * (ac - 1) + i))))), (mbk, .inl (cI, 432, .inl bk))] H := hP
      have hD : va_D A [(M, .inr (9, [.int (nI 0), .ref mtx, .int (nI len), .int (nI pl), .int rt, .int fr, .int pr, .ref mod_, .int (nI n), .ref mne, .ref mro, .int (nI m), .int rrt, .int rfr, .int rpr, .ref mrod, .int (nI rn9), .ref mrne, .ref mrro, .int (nI rm9), .ref mrp, .ref mpg, .ref mbk, .int (nI (ac - 1)), .ref mke, .ref mik, .int (nI cr), .ref mrw, .ref mrd, .long sd, .ref mtr, .ref mwo, .ref mnx, .int jr])), (mpg, .inl (cI, 36, .inl (upd (va_cpy bk g (36 * (ac - 1)) 0 i) i (bk (36 * (ac - 1) + i))))), (mbk, .inl (cI, 432, .inl bk))] := hD
      refine lv_iinc (v := nI (i + 1)) (lv' := [(1, .int (nI (i + 1))), (0, .ref M)]) hx hb dX9_undo_53 hl (k := 0) rfl (z_inc _ 1) (by decide) rfl (fun ls hl => ?_)
      refine lv_goto (tgt := 27) hx hb dX9_undo_56 (by decide) ?_
      have e_6 : upd (va_cpy bk g (36 * (ac - 1)) 0 i) i (bk (36 * (ac - 1) + i)) = va_cpy bk g (36 * (ac - 1)) 0 (i + 1) := by first | exact zcpyT_d0 _ _ _ _ | rfl
      have hP : va_P D vwCl [(M, .inr (9, [.int (nI 0), .ref mtx, .int (nI len), .int (nI pl), .int rt, .int fr, .int pr, .ref mod_, .int (nI n), .ref mne, .ref mro, .int (nI m), .int rrt, .int rfr, .int rpr, .ref mrod, .int (nI rn9), .ref mrne, .ref mrro, .int (nI rm9), .ref mrp, .ref mpg, .ref mbk, .int (nI (ac - 1)), .ref mke, .ref mik, .int (nI cr), .ref mrw, .ref mrd, .long sd, .ref mtr, .ref mwo, .ref mnx, .int jr])), (mpg, .inl (cI, 36, .inl (va_cpy bk g (36 * (ac - 1)) 0 (i + 1)))), (mbk, .inl (cI, 432, .inl bk))] H := Eq.subst (motive := fun zz_ => va_P D vwCl [(M, .inr (9, [.int (nI 0), .ref mtx, .int (nI len), .int (nI pl), .int rt, .int fr, .int pr, .ref mod_, .int (nI n), .ref mne, .ref mro, .int (nI m), .int rrt, .int rfr, .int rpr, .ref mrod, .int (nI rn9), .ref mrne, .ref mrro, .int (nI rm9), .ref mrp, .ref mpg, .ref mbk, .int (nI (ac - 1)), .ref mke, .ref mik, .int (nI cr), .ref mrw, .ref mrd, .long sd, .ref mtr, .ref mwo, .ref mnx, .int jr])), (mpg, .inl (cI, 36, .inl zz_)), (mbk, .inl (cI, 432, .inl bk))] H) e_6 hP
      have hD : va_D A [(M, .inr (9, [.int (nI 0), .ref mtx, .int (nI len), .int (nI pl), .int rt, .int fr, .int pr, .ref mod_, .int (nI n), .ref mne, .ref mro, .int (nI m), .int rrt, .int rfr, .int rpr, .ref mrod, .int (nI rn9), .ref mrne, .ref mrro, .int (nI rm9), .ref mrp, .ref mpg, .ref mbk, .int (nI (ac - 1)), .ref mke, .ref mik, .int (nI cr), .ref mrw, .ref mrd, .long sd, .ref mtr, .ref mwo, .ref mnx, .int jr])), (mpg, .inl (cI, 36, .inl (va_cpy bk g (36 * (ac - 1)) 0 (i + 1)))), (mbk, .inl (cI, 432, .inl bk))] := zD_of hD rfl
      have hl : lv_has ls 2 [(1, .int (nI (i + 1))), (0, .ref M)] := lv_sub hl [0, 1] rfl
      exact ih_2 _ _ _ (by omega) ⟨hP, hD, hS, hl⟩
  · have c_1 := zeq (i := ac) (j := 0) (by omega) (by decide) c_1
    refine lv_bipush (v := -3) hx hb dX9_undo_12 (by decide) ?_
    have e_7 : nI ac = nI (ac - 1) := by first | rw [if_pos (by assumption)] | rw [if_neg (by assumption)] | exact congrArg nI (by omega)
    have hP : va_P D vwCl [(M, .inr (9, [.int (nI 0), .ref mtx, .int (nI len), .int (nI pl), .int rt, .int fr, .int pr, .ref mod_, .int (nI n), .ref mne, .ref mro, .int (nI m), .int rrt, .int rfr, .int rpr, .ref mrod, .int (nI rn9), .ref mrne, .ref mrro, .int (nI rm9), .ref mrp, .ref mpg, .ref mbk, .int (nI (ac - 1)), .ref mke, .ref mik, .int (nI cr), .ref mrw, .ref mrd, .long sd, .ref mtr, .ref mwo, .ref mnx, .int jr])), (mpg, .inl (cI, 36, .inl g)), (mbk, .inl (cI, 432, .inl bk))] H := Eq.subst (motive := fun zz_ => va_P D vwCl [(M, .inr (9, [.int (nI 0), .ref mtx, .int (nI len), .int (nI pl), .int rt, .int fr, .int pr, .ref mod_, .int (nI n), .ref mne, .ref mro, .int (nI m), .int rrt, .int rfr, .int rpr, .ref mrod, .int (nI rn9), .ref mrne, .ref mrro, .int (nI rm9), .ref mrp, .ref mpg, .ref mbk, .int zz_, .ref mke, .ref mik, .int (nI cr), .ref mrw, .ref mrd, .long sd, .ref mtr, .ref mwo, .ref mnx, .int jr])), (mpg, .inl (cI, 36, .inl g)), (mbk, .inl (cI, 432, .inl bk))] H) e_7 hP
    have e_8 : g = (if ac = 0 then g else va_cpy bk g (36 * (ac - 1)) 0 36) := by first | rw [if_pos (by assumption)] | rw [if_neg (by assumption)] | exact congrArg nI (by omega)
    have hP : va_P D vwCl [(M, .inr (9, [.int (nI 0), .ref mtx, .int (nI len), .int (nI pl), .int rt, .int fr, .int pr, .ref mod_, .int (nI n), .ref mne, .ref mro, .int (nI m), .int rrt, .int rfr, .int rpr, .ref mrod, .int (nI rn9), .ref mrne, .ref mrro, .int (nI rm9), .ref mrp, .ref mpg, .ref mbk, .int (nI (ac - 1)), .ref mke, .ref mik, .int (nI cr), .ref mrw, .ref mrd, .long sd, .ref mtr, .ref mwo, .ref mnx, .int jr])), (mpg, .inl (cI, 36, .inl (if ac = 0 then g else va_cpy bk g (36 * (ac - 1)) 0 36))), (mbk, .inl (cI, 432, .inl bk))] H := Eq.subst (motive := fun zz_ => va_P D vwCl [(M, .inr (9, [.int (nI 0), .ref mtx, .int (nI len), .int (nI pl), .int rt, .int fr, .int pr, .ref mod_, .int (nI n), .ref mne, .ref mro, .int (nI m), .int rrt, .int rfr, .int rpr, .ref mrod, .int (nI rn9), .ref mrne, .ref mrro, .int (nI rm9), .ref mrp, .ref mpg, .ref mbk, .int (nI (ac - 1)), .ref mke, .ref mik, .int (nI cr), .ref mrw, .ref mrd, .long sd, .ref mtr, .ref mwo, .ref mnx, .int jr])), (mpg, .inl (cI, 36, .inl zz_)), (mbk, .inl (cI, 432, .inl bk))] H) e_8 hP
    have hD : va_D A [(M, .inr (9, [.int (nI 0), .ref mtx, .int (nI len), .int (nI pl), .int rt, .int fr, .int pr, .ref mod_, .int (nI n), .ref mne, .ref mro, .int (nI m), .int rrt, .int rfr, .int rpr, .ref mrod, .int (nI rn9), .ref mrne, .ref mrro, .int (nI rm9), .ref mrp, .ref mpg, .ref mbk, .int (nI (ac - 1)), .ref mke, .ref mik, .int (nI cr), .ref mrw, .ref mrd, .long sd, .ref mtr, .ref mwo, .ref mnx, .int jr])), (mpg, .inl (cI, 36, .inl (if ac = 0 then g else va_cpy bk g (36 * (ac - 1)) 0 36))), (mbk, .inl (cI, 432, .inl bk))] := zD_of hD rfl
    exact z_iret Z () (by first | rw [if_pos (by assumption)] | rw [if_neg (by assumption)] | exact congrArg nI (by omega)) hP hS dX9_undo_14

theorem dX9_tax_0 : decode cX9_tax 0 = .ok (.aload_n 0, 1) := by decide +kernel
theorem dX9_tax_1 : decode cX9_tax 1 = .ok (.iconst 0, 1) := by decide +kernel
theorem dX9_tax_2 : decode cX9_tax 2 = .ok (.putfield 62, 3) := by decide +kernel
theorem dX9_tax_5 : decode cX9_tax 5 = .ok (.aload_n 0, 1) := by decide +kernel
theorem dX9_tax_6 : decode cX9_tax 6 = .ok (.iload_n 1, 1) := by decide +kernel
theorem dX9_tax_7 : decode cX9_tax 7 = .ok (.invokevirtual 147, 3) := by decide +kernel
theorem dX9_tax_10 : decode cX9_tax 10 = .ok (.ifCond .eq 7, 3) := by decide +kernel
theorem dX9_tax_13 : decode cX9_tax 13 = .ok (.iconst (-1), 1) := by decide +kernel
theorem dX9_tax_14 : decode cX9_tax 14 = .ok (.goto 25, 3) := by decide +kernel
theorem dX9_tax_17 : decode cX9_tax 17 = .ok (.iload_n 2, 1) := by decide +kernel
theorem dX9_tax_18 : decode cX9_tax 18 = .ok (.invokestatic 164, 3) := by decide +kernel
theorem dX9_tax_21 : decode cX9_tax 21 = .ok (.ifCond .eq 8, 3) := by decide +kernel
theorem dX9_tax_24 : decode cX9_tax 24 = .ok (.bipush (-2), 2) := by decide +kernel
theorem dX9_tax_26 : decode cX9_tax 26 = .ok (.goto 13, 3) := by decide +kernel
theorem dX9_tax_29 : decode cX9_tax 29 = .ok (.aload_n 0, 1) := by decide +kernel
theorem dX9_tax_30 : decode cX9_tax 30 = .ok (.aload_n 0, 1) := by decide +kernel
theorem dX9_tax_31 : decode cX9_tax 31 = .ok (.getfield 34, 3) := by decide +kernel
theorem dX9_tax_34 : decode cX9_tax 34 = .ok (.iload_n 1, 1) := by decide +kernel
theorem dX9_tax_35 : decode cX9_tax 35 = .ok (.iload_n 2, 1) := by decide +kernel
theorem dX9_tax_36 : decode cX9_tax 36 = .ok (.invokevirtual 156, 3) := by decide +kernel
theorem dX9_tax_39 : decode cX9_tax 39 = .ok (.ireturn, 1) := by decide +kernel
theorem zd_X9_tax : yX9_tax.cls ≠ "java/lang/invoke/MethodHandle" ∧ yX9_tax.cls ≠ "java/lang/invoke/VarHandle" ∧ (parseMethodDescriptor yX9_tax.desc).map (fun d => d.parameters.length) = some 2 := by decide +kernel
set_option maxHeartbeats 4000000 in
set_option maxRecDepth 100000 in
theorem zc_X9_tax (l : Launch) (D : va_G) (cI cZ : ClassId) (M : Nat) (th : Int32) (mtx : Nat) (len : Nat) (pl : Nat) (rt : Int32) (fr : Int32) (pr : Int32) (mod_ : Nat) (n : Nat) (mne : Nat) (mro : Nat) (m : Nat) (rrt : Int32) (rfr : Int32) (rpr : Int32) (mrod : Nat) (rn9 : Nat) (mrne : Nat) (mrro : Nat) (rm9 : Nat) (mrp : Nat) (mpg : Nat) (mbk : Nat) (ac : Nat) (mke : Nat) (mik : Nat) (cr : Nat) (mrw : Nat) (mrd : Nat) (sd : Int64) (mtr : Nat) (mwo : Nat) (mnx : Nat) (jr : Int32) (g : Nat → Int32) (f : Nat → Int32) (x1 : Int32) (x2 : Int32) (hn : n ≤ 5) (hpg : zpr n f g) : zI l yX9_tax cX9_tax 3 .int 2 49 D cI cZ [.ref M, .int x1, .int x2] [(M, .inr (9, [.int th, .ref mtx, .int (nI len), .int (nI pl), .int rt, .int fr, .int pr, .ref mod_, .int (nI n), .ref mne, .ref mro, .int (nI m), .int rrt, .int rfr, .int rpr, .ref mrod, .int (nI rn9), .ref mrne, .ref mrro, .int (nI rm9), .ref mrp, .ref mpg, .ref mbk, .int (nI ac), .ref mke, .ref mik, .int (nI cr), .ref mrw, .ref mrd, .long sd, .ref mtr, .ref mwo, .ref mnx, .int jr])), (mpg, .inl (cI, 36, .inl g))] (fun (r : Int32) (u : Unit) => r = zPa n x1 (fun p => zKa x2 (fun k => ztax f rt fr p k) (-2)) (-1)) (fun (u : Unit) => [(M, .inr (9, [.int (nI 0), .ref mtx, .int (nI len), .int (nI pl), .int rt, .int fr, .int pr, .ref mod_, .int (nI n), .ref mne, .ref mro, .int (nI m), .int rrt, .int rfr, .int rpr, .ref mrod, .int (nI rn9), .ref mrne, .ref mrro, .int (nI rm9), .ref mrp, .ref mpg, .ref mbk, .int (nI ac), .ref mke, .ref mik, .int (nI cr), .ref mrw, .ref mrd, .long sd, .ref mtr, .ref mwo, .ref mnx, .int jr])), (mpg, .inl (cI, 36, .inl g))]) := by
  refine zI_of (by decide) (Nat.le_of_ble_eq_true rfl) ?_
  intro pP eE sS mM aA bB mT cC A ls Z hP hD hS hl
  have hx := Z.1
  have hb := Z.2.1
  have hown := Z.2.2.2.2.2.1
  have hts := Z.2.2.2.2.1
  have Z : zAt pP sS mM aA mT cC D cI cZ A "SurpriseTaxModel" cX9_tax 3 (some .int) := Z
  have hl : lv_has ls 3 [(0, .ref M), (1, .int x1), (2, .int x2)] := hl
  obtain ⟨H, hH⟩ : ∃ H, H = sS.heap := ⟨_, rfl⟩
  have hP : va_P D vwCl [(M, .inr (9, [.int th, .ref mtx, .int (nI len), .int (nI pl), .int rt, .int fr, .int pr, .ref mod_, .int (nI n), .ref mne, .ref mro, .int (nI m), .int rrt, .int rfr, .int rpr, .ref mrod, .int (nI rn9), .ref mrne, .ref mrro, .int (nI rm9), .ref mrp, .ref mpg, .ref mbk, .int (nI ac), .ref mke, .ref mik, .int (nI cr), .ref mrw, .ref mrd, .long sd, .ref mtr, .ref mwo, .ref mnx, .int jr])), (mpg, .inl (cI, 36, .inl g))] H := by rw [hH]; exact hP
  have hS : va_S A sS.heap H [] := by rw [hH]; exact hS
  rw [← hH]
  clear hH
  obtain ⟨locs, hlo⟩ : ∃ q : List Loc, q = [] := ⟨_, rfl⟩
  rw [← hlo] at hS ⊢
  clear hlo
  refine lv_aload_n hx hb dX9_tax_0 rfl (lv_at hl 0 rfl) ?_
  refine lv_iconst (v := nI 0) hx hb dX9_tax_1 (by decide) ?_
  refine z_put (ci := 9) (v := .int (nI 0)) Z zin9 tyX9 tyX9_ok nmX9 hP hD hS 0 rfl rfl 0 (by decide) zm677 rfl rfl rfl rfl (Nat.le_of_ble_eq_true rfl) dX9_tax_2 (fun H locs hP hD hS => ?_)
  have hP : va_P D vwCl [(M, .inr (9, [.int (nI 0), .ref mtx, .int (nI len), .int (nI pl), .int rt, .int fr, .int pr, .ref mod_, .int (nI n), .ref mne, .ref mro, .int (nI m), .int rrt, .int rfr, .int rpr, .ref mrod, .int (nI rn9), .ref mrne, .ref mrro, .int (nI rm9), .ref mrp, .ref mpg, .ref mbk, .int (nI ac), .ref mke, .ref mik, .int (nI cr), .ref mrw, .ref mrd, .long sd, .ref mtr, .ref mwo, .ref mnx, .int jr])), (mpg, .inl (cI, 36, .inl g))] H := hP
  have hD : va_D A [(M, .inr (9, [.int (nI 0), .ref mtx, .int (nI len), .int (nI pl), .int rt, .int fr, .int pr, .ref mod_, .int (nI n), .ref mne, .ref mro, .int (nI m), .int rrt, .int rfr, .int rpr, .ref mrod, .int (nI rn9), .ref mrne, .ref mrro, .int (nI rm9), .ref mrp, .ref mpg, .ref mbk, .int (nI ac), .ref mke, .ref mik, .int (nI cr), .ref mrw, .ref mrd, .long sd, .ref mtr, .ref mwo, .ref mnx, .int jr])), (mpg, .inl (cI, 36, .inl g))] := hD
  refine lv_aload_n hx hb dX9_tax_5 rfl (lv_at hl 0 rfl) ?_
  refine lv_iload_n hx hb dX9_tax_6 rfl (lv_at hl 1 rfl) ?_
  refine z_callVi (As := [.int x1]) (rest := []) (ci := 9) (k0 := 0) Z hP hD hS hl.1 (zc_X9_noOne l D cI cZ M (nI 0) mtx len pl rt fr pr mod_ n mne mro m rrt rfr rpr mrod rn9 mrne mrro rm9 mrp mpg mbk ac mke mik cr mrw mrd sd mtr mwo mnx jr x1 (by omega)) zm797 zm798 zm19 zm39 zm799 ⟨rfl, zd_X9_noOne⟩ ⟨Nat.le_of_ble_eq_true rfl, Nat.le_of_ble_eq_true rfl⟩ ⟨Nat.zero_le _, Nat.zero_le _⟩ [0] rfl (by decide) rfl rfl rfl (fun _ => rfl) rfl (Nat.le_of_ble_eq_true rfl) rfl dX9_tax_7 (fun r_1 u H locs h_2 hP hD hS => ?_)
  have hP : va_P D vwCl [(M, .inr (9, [.int (nI 0), .ref mtx, .int (nI len), .int (nI pl), .int rt, .int fr, .int pr, .ref mod_, .int (nI n), .ref mne, .ref mro, .int (nI m), .int rrt, .int rfr, .int rpr, .ref mrod, .int (nI rn9), .ref mrne, .ref mrro, .int (nI rm9), .ref mrp, .ref mpg, .ref mbk, .int (nI ac), .ref mke, .ref mik, .int (nI cr), .ref mrw, .ref mrd, .long sd, .ref mtr, .ref mwo, .ref mnx, .int jr])), (mpg, .inl (cI, 36, .inl g))] H := hP
  have hD : va_D A [(M, .inr (9, [.int (nI 0), .ref mtx, .int (nI len), .int (nI pl), .int rt, .int fr, .int pr, .ref mod_, .int (nI n), .ref mne, .ref mro, .int (nI m), .int rrt, .int rfr, .int rpr, .ref mrod, .int (nI rn9), .ref mrne, .ref mrro, .int (nI rm9), .ref mrp, .ref mpg, .ref mbk, .int (nI ac), .ref mke, .ref mik, .int (nI cr), .ref mrw, .ref mrd, .long sd, .ref mtr, .ref mwo, .ref mnx, .int jr])), (mpg, .inl (cI, 36, .inl g))] := hD
  have h_2 : r_1 = if ¬ zhas n x1 then 1 else 0 := h_2
  subst h_2
  refine lv_if_eq (tgt := 17) hx hb dX9_tax_10 (by decide) (fun c_3 => ?_) (fun c_3 => ?_)
  · have c_3 := zb0 c_3
    have hzz := Classical.not_not.mp c_3
    obtain ⟨p, hp, rfl⟩ := zhas_of (by omega) hzz
    refine lv_iload_n hx hb dX9_tax_17 rfl (lv_at hl 2 rfl) ?_
    refine z_callSi (As := [.int x2]) (rest := []) Z hP hD hS hl.1 (zc_X9_noKind l D cI cZ x2 ) zm806 zm807 zm39 zm808 zd_X9_noKind ⟨Nat.le_of_ble_eq_true rfl, Nat.le_of_ble_eq_true rfl⟩ ⟨Nat.zero_le _, Nat.zero_le _⟩ [] rfl (by decide) (fun _ => rfl) rfl (Nat.le_of_ble_eq_true rfl) rfl dX9_tax_18 (fun r_4 u H locs h_5 hP hD hS => ?_)
    have hP : va_P D vwCl [(M, .inr (9, [.int (nI 0), .ref mtx, .int (nI len), .int (nI pl), .int rt, .int fr, .int pr, .ref mod_, .int (nI n), .ref mne, .ref mro, .int (nI m), .int rrt, .int rfr, .int rpr, .ref mrod, .int (nI rn9), .ref mrne, .ref mrro, .int (nI rm9), .ref mrp, .ref mpg, .ref mbk, .int (nI ac), .ref mke, .ref mik, .int (nI cr), .ref mrw, .ref mrd, .long sd, .ref mtr, .ref mwo, .ref mnx, .int jr])), (mpg, .inl (cI, 36, .inl g))] H := hP
    have hD : va_D A [(M, .inr (9, [.int (nI 0), .ref mtx, .int (nI len), .int (nI pl), .int rt, .int fr, .int pr, .ref mod_, .int (nI n), .ref mne, .ref mro, .int (nI m), .int rrt, .int rfr, .int rpr, .ref mrod, .int (nI rn9), .ref mrne, .ref mrro, .int (nI rm9), .ref mrp, .ref mpg, .ref mbk, .int (nI ac), .ref mke, .ref mik, .int (nI cr), .ref mrw, .ref mrd, .long sd, .ref mtr, .ref mwo, .ref mnx, .int jr])), (mpg, .inl (cI, 36, .inl g))] := hD
    have h_5 : r_4 = if ¬ zkind x2 then 1 else 0 := h_5
    subst h_5
    refine lv_if_eq (tgt := 29) hx hb dX9_tax_21 (by decide) (fun c_6 => ?_) (fun c_6 => ?_)
    · have c_6 := zb0 c_6
      have hzk := Classical.not_not.mp c_6
      obtain ⟨k, hk, rfl⟩ := zkind_of hzk
      refine lv_aload_n hx hb dX9_tax_29 rfl (lv_at hl 0 rfl) ?_
      refine lv_aload_n hx hb dX9_tax_30 rfl (lv_at hl 0 rfl) ?_
      refine z_get (ci := 9) (v := .ref mpg) Z zin9 hP 0 rfl rfl 21 (by decide) zm698 rfl rfl dX9_tax_31 ?_
      refine lv_iload_n hx hb dX9_tax_34 rfl (lv_at hl 1 rfl) ?_
      refine lv_iload_n hx hb dX9_tax_35 rfl (lv_at hl 2 rfl) ?_
      refine z_callVi (As := [.ref mpg, .int (nI p), .int (nI k)]) (rest := []) (ci := 9) (k0 := 0) Z hP hD hS hl.1 (zc_X9_taxOf l D cI cZ M (nI 0) mtx len pl rt fr pr mod_ n mne mro m rrt rfr rpr mrod rn9 mrne mrro rm9 mrp mpg mbk ac mke mik cr mrw mrd sd mtr mwo mnx jr mpg g f p k (by first | omega | exact hpg.1 p hp) (by first | omega | exact hpg.1 p hp) (by first | omega | exact hpg.1 p hp)) zm823 zm824 zm22 zm39 zm825 ⟨rfl, zd_X9_taxOf⟩ ⟨Nat.le_of_ble_eq_true rfl, Nat.le_of_ble_eq_true rfl⟩ ⟨Nat.zero_le _, Nat.zero_le _⟩ [0, 1] rfl (by decide) rfl rfl rfl (fun _ => rfl) rfl (Nat.le_of_ble_eq_true rfl) rfl dX9_tax_36 (fun r_7 u H locs h_8 hP hD hS => ?_)
      have hP : va_P D vwCl [(M, .inr (9, [.int (nI 0), .ref mtx, .int (nI len), .int (nI pl), .int rt, .int fr, .int pr, .ref mod_, .int (nI n), .ref mne, .ref mro, .int (nI m), .int rrt, .int rfr, .int rpr, .ref mrod, .int (nI rn9), .ref mrne, .ref mrro, .int (nI rm9), .ref mrp, .ref mpg, .ref mbk, .int (nI ac), .ref mke, .ref mik, .int (nI cr), .ref mrw, .ref mrd, .long sd, .ref mtr, .ref mwo, .ref mnx, .int jr])), (mpg, .inl (cI, 36, .inl g))] H := hP
      have hD : va_D A [(M, .inr (9, [.int (nI 0), .ref mtx, .int (nI len), .int (nI pl), .int rt, .int fr, .int pr, .ref mod_, .int (nI n), .ref mne, .ref mro, .int (nI m), .int rrt, .int rfr, .int rpr, .ref mrod, .int (nI rn9), .ref mrne, .ref mrro, .int (nI rm9), .ref mrp, .ref mpg, .ref mbk, .int (nI ac), .ref mke, .ref mik, .int (nI cr), .ref mrw, .ref mrd, .long sd, .ref mtr, .ref mwo, .ref mnx, .int jr])), (mpg, .inl (cI, 36, .inl g))] := hD
      have h_8 : r_7 = ztax f rt fr p k := h_8
      subst h_8
      exact z_iret Z () (by first | rw [zPa_n (by assumption)] | rw [zPa_y hp hn, zKa_n (by assumption)] | rw [zPa_y hp hn, zKa_y hk, if_pos (by assumption)] | rw [zPa_y hp hn, zKa_y hk, if_neg (by assumption)] | rw [zPa_y hp hn, zKa_y hk] | rw [zPa_y hp hn, if_pos (by assumption)] | rw [zPa_y hp hn, if_neg (by assumption)] | rw [zPa_y hp hn] | rfl) hP hS dX9_tax_39
    · have c_6 := zb1 c_6
      refine lv_bipush (v := -2) hx hb dX9_tax_24 (by decide) ?_
      refine lv_goto (tgt := 39) hx hb dX9_tax_26 (by decide) ?_
      exact z_iret Z () (by first | rw [zPa_n (by assumption)] | rw [zPa_y hp hn, zKa_n (by assumption)] | rw [zPa_y hp hn, zKa_y hk, if_pos (by assumption)] | rw [zPa_y hp hn, zKa_y hk, if_neg (by assumption)] | rw [zPa_y hp hn, zKa_y hk] | rw [zPa_y hp hn, if_pos (by assumption)] | rw [zPa_y hp hn, if_neg (by assumption)] | rw [zPa_y hp hn] | rfl) hP hS dX9_tax_39
  · have c_3 := zb1 c_3
    refine lv_iconst (v := -1) hx hb dX9_tax_13 (by decide) ?_
    refine lv_goto (tgt := 39) hx hb dX9_tax_14 (by decide) ?_
    exact z_iret Z () (by first | rw [zPa_n (by assumption)] | rw [zPa_y hp hn, zKa_n (by assumption)] | rw [zPa_y hp hn, zKa_y hk, if_pos (by assumption)] | rw [zPa_y hp hn, zKa_y hk, if_neg (by assumption)] | rw [zPa_y hp hn, zKa_y hk] | rw [zPa_y hp hn, if_pos (by assumption)] | rw [zPa_y hp hn, if_neg (by assumption)] | rw [zPa_y hp hn] | rfl) hP hS dX9_tax_39

theorem dX9_divisor_0 : decode cX9_divisor 0 = .ok (.iload_n 0, 1) := by decide +kernel
theorem dX9_divisor_1 : decode cX9_divisor 1 = .ok (.istore_n 2, 1) := by decide +kernel
theorem dX9_divisor_2 : decode cX9_divisor 2 = .ok (.iload_n 1, 1) := by decide +kernel
theorem dX9_divisor_3 : decode cX9_divisor 3 = .ok (.istore_n 3, 1) := by decide +kernel
theorem dX9_divisor_4 : decode cX9_divisor 4 = .ok (.iload_n 3, 1) := by decide +kernel
theorem dX9_divisor_5 : decode cX9_divisor 5 = .ok (.ifCond .eq 16, 3) := by decide +kernel
theorem dX9_divisor_8 : decode cX9_divisor 8 = .ok (.iload_n 2, 1) := by decide +kernel
theorem dX9_divisor_9 : decode cX9_divisor 9 = .ok (.iload_n 3, 1) := by decide +kernel
theorem dX9_divisor_10 : decode cX9_divisor 10 = .ok (.irem, 1) := by decide +kernel
theorem dX9_divisor_11 : decode cX9_divisor 11 = .ok (.istore 4, 2) := by decide +kernel
theorem dX9_divisor_13 : decode cX9_divisor 13 = .ok (.iload_n 3, 1) := by decide +kernel
theorem dX9_divisor_14 : decode cX9_divisor 14 = .ok (.istore_n 2, 1) := by decide +kernel
theorem dX9_divisor_15 : decode cX9_divisor 15 = .ok (.iload 4, 2) := by decide +kernel
theorem dX9_divisor_17 : decode cX9_divisor 17 = .ok (.istore_n 3, 1) := by decide +kernel
theorem dX9_divisor_18 : decode cX9_divisor 18 = .ok (.goto (-14), 3) := by decide +kernel
theorem dX9_divisor_21 : decode cX9_divisor 21 = .ok (.iload_n 2, 1) := by decide +kernel
theorem dX9_divisor_22 : decode cX9_divisor 22 = .ok (.ireturn, 1) := by decide +kernel
theorem zd_X9_divisor : yX9_divisor.cls ≠ "java/lang/invoke/MethodHandle" ∧ yX9_divisor.cls ≠ "java/lang/invoke/VarHandle" ∧ (parseMethodDescriptor yX9_divisor.desc).map (fun d => d.parameters.length) = some 2 := by decide +kernel
set_option maxHeartbeats 4000000 in
set_option maxRecDepth 100000 in
theorem zc_X9_divisor (l : Launch) (D : va_G) (cI cZ : ClassId) (x : Nat) (y : Nat) (hx0 : x < 2147483648) (hy0 : y < 2147483648) : zI l yX9_divisor cX9_divisor 5 .int 0 0 D cI cZ [.int (nI x), .int (nI y)] [] (fun (r : Int32) (u : Unit) => r = nI (Nat.gcd x y)) (fun (u : Unit) => []) := by
  refine zI_of (by decide) (Nat.le_of_ble_eq_true rfl) ?_
  intro pP eE sS mM aA bB mT cC A ls Z hP hD hS hl
  have hx := Z.1
  have hb := Z.2.1
  have hown := Z.2.2.2.2.2.1
  have hts := Z.2.2.2.2.1
  have Z : zAt pP sS mM aA mT cC D cI cZ A "SurpriseTaxModel" cX9_divisor 5 (some .int) := Z
  have hl : lv_has ls 5 [(0, .int (nI x)), (1, .int (nI y))] := hl
  obtain ⟨H, hH⟩ : ∃ H, H = sS.heap := ⟨_, rfl⟩
  have hP : va_P D vwCl [] H := by rw [hH]; exact hP
  have hS : va_S A sS.heap H [] := by rw [hH]; exact hS
  rw [← hH]
  clear hH
  obtain ⟨locs, hlo⟩ : ∃ q : List Loc, q = [] := ⟨_, rfl⟩
  rw [← hlo] at hS ⊢
  clear hlo
  refine lv_iload_n hx hb dX9_divisor_0 rfl (lv_at hl 0 rfl) ?_
  refine lv_istore_n (lv' := [(2, .int (nI x)), (0, .int (nI x)), (1, .int (nI y))]) hx hb dX9_divisor_1 rfl hl (by decide) rfl (fun ls hl => ?_)
  refine lv_iload_n hx hb dX9_divisor_2 rfl (lv_at hl 2 rfl) ?_
  refine lv_istore_n (lv' := [(3, .int (nI y)), (2, .int (nI x)), (0, .int (nI x)), (1, .int (nI y))]) hx hb dX9_divisor_3 rfl hl (by decide) rfl (fun ls hl => ?_)
  have hl : lv_has ls 5 [(3, .int (nI y)), (2, .int (nI x)), (0, .int (nI x)), (1, .int (nI y))] := lv_sub hl [0, 1, 2, 3] rfl
  refine z_loopm (fun (x_ : Nat × Nat) H locs ls => va_P D vwCl [] H ∧ va_D A [] ∧ va_S A sS.heap H locs ∧ lv_has ls 5 [(3, .int (nI x_.2)), (2, .int (nI x_.1)), (0, .int (nI x)), (1, .int (nI y))] ∧ (Nat.gcd x_.1 x_.2 = Nat.gcd x y) ∧ (x_.1 < 2147483648) ∧ (x_.2 < 2147483648)) (fun x_ => x_.2) (x, y) ⟨hP, hD, hS, hl, (by first | rfl | assumption), (by first | rfl | assumption), (by first | rfl | assumption)⟩ (fun x_ ih_1 H locs ls hI => ?_)
  obtain ⟨p, q⟩ := x_
  obtain ⟨hP, hD, hS, hl, hv4_0, hv4_1, hv4_2⟩ := hI
  dsimp only at ih_1 hv4_0 hv4_1 hv4_2
  have hv4_0 : Nat.gcd p q = Nat.gcd x y := hv4_0
  have hv4_1 : p < 2147483648 := hv4_1
  have hv4_2 : q < 2147483648 := hv4_2
  have hP : va_P D vwCl [] H := hP
  have hD : va_D A [] := hD
  have hl : lv_has ls 5 [(3, .int (nI q)), (2, .int (nI p)), (0, .int (nI x)), (1, .int (nI y))] := hl
  refine lv_iload_n hx hb dX9_divisor_4 rfl (lv_at hl 0 rfl) ?_
  refine lv_if_eq (tgt := 21) hx hb dX9_divisor_5 (by decide) (fun c_2 => ?_) (fun c_2 => ?_)
  · have c_2 := zeq (i := q) (j := 0) (by omega) (by decide) c_2
    have hg : p = Nat.gcd x y := by rw [← hv4_0, c_2, Nat.gcd_zero_right]
    refine lv_iload_n hx hb dX9_divisor_21 rfl (lv_at hl 1 rfl) ?_
    exact z_iret Z () (by first | exact congrArg nI hg | rfl) hP hS dX9_divisor_22
  · have c_2 := zne (i := q) (j := 0) c_2
    refine lv_iload_n hx hb dX9_divisor_8 rfl (lv_at hl 1 rfl) ?_
    refine lv_iload_n hx hb dX9_divisor_9 rfl (lv_at hl 0 rfl) ?_
    refine lv_irem hx hb dX9_divisor_10 (by assumption) ?_
    refine z_top (y := nI (p % q)) (pk_rem (by omega) (by omega) (by omega)) ?_
    refine lv_istore (lv' := [(4, .int (nI (p % q))), (3, .int (nI q)), (2, .int (nI p)), (0, .int (nI x)), (1, .int (nI y))]) hx hb dX9_divisor_11 hl (by decide) rfl (fun ls hl => ?_)
    refine lv_iload_n hx hb dX9_divisor_13 rfl (lv_at hl 1 rfl) ?_
    refine lv_istore_n (lv' := [(2, .int (nI q)), (4, .int (nI (p % q))), (3, .int (nI q)), (0, .int (nI x)), (1, .int (nI y))]) hx hb dX9_divisor_14 rfl hl (by decide) rfl (fun ls hl => ?_)
    refine lv_iload hx hb dX9_divisor_15 (lv_at hl 1 rfl) ?_
    refine lv_istore_n (lv' := [(3, .int (nI (p % q))), (2, .int (nI q)), (4, .int (nI (p % q))), (0, .int (nI x)), (1, .int (nI y))]) hx hb dX9_divisor_17 rfl hl (by decide) rfl (fun ls hl => ?_)
    refine lv_goto (tgt := 4) hx hb dX9_divisor_18 (by decide) ?_
    have hl : lv_has ls 5 [(3, .int (nI (p % q))), (2, .int (nI q)), (0, .int (nI x)), (1, .int (nI y))] := lv_sub hl [0, 1, 3, 4] rfl
    exact ih_1 (q, p % q) _ _ _ (by exact Nat.mod_lt _ (by omega)) ⟨hP, hD, hS, hl, (by first | exact zgcd_s (by assumption) | exact Nat.lt_trans (Nat.mod_lt _ (by omega)) (by assumption) | assumption), (by first | exact zgcd_s (by assumption) | exact Nat.lt_trans (Nat.mod_lt _ (by omega)) (by assumption) | assumption), (by first | exact zgcd_s (by assumption) | exact Nat.lt_trans (Nat.mod_lt _ (by omega)) (by assumption) | assumption)⟩

theorem dX9_fraction_0 : decode cX9_fraction 0 = .ok (.iload_n 0, 1) := by decide +kernel
theorem dX9_fraction_1 : decode cX9_fraction 1 = .ok (.iload_n 1, 1) := by decide +kernel
theorem dX9_fraction_2 : decode cX9_fraction 2 = .ok (.invokestatic 174, 3) := by decide +kernel
theorem dX9_fraction_5 : decode cX9_fraction 5 = .ok (.istore_n 3, 1) := by decide +kernel
theorem dX9_fraction_6 : decode cX9_fraction 6 = .ok (.iload_n 2, 1) := by decide +kernel
theorem dX9_fraction_7 : decode cX9_fraction 7 = .ok (.ifCond .eq 9, 3) := by decide +kernel
theorem dX9_fraction_10 : decode cX9_fraction 10 = .ok (.iload_n 0, 1) := by decide +kernel
theorem dX9_fraction_11 : decode cX9_fraction 11 = .ok (.iload_n 3, 1) := by decide +kernel
theorem dX9_fraction_12 : decode cX9_fraction 12 = .ok (.idiv, 1) := by decide +kernel
theorem dX9_fraction_13 : decode cX9_fraction 13 = .ok (.goto 6, 3) := by decide +kernel
theorem dX9_fraction_16 : decode cX9_fraction 16 = .ok (.iload_n 1, 1) := by decide +kernel
theorem dX9_fraction_17 : decode cX9_fraction 17 = .ok (.iload_n 3, 1) := by decide +kernel
theorem dX9_fraction_18 : decode cX9_fraction 18 = .ok (.idiv, 1) := by decide +kernel
theorem dX9_fraction_19 : decode cX9_fraction 19 = .ok (.ireturn, 1) := by decide +kernel
theorem zd_X9_fraction : yX9_fraction.cls ≠ "java/lang/invoke/MethodHandle" ∧ yX9_fraction.cls ≠ "java/lang/invoke/VarHandle" ∧ (parseMethodDescriptor yX9_fraction.desc).map (fun d => d.parameters.length) = some 3 := by decide +kernel
set_option maxHeartbeats 4000000 in
set_option maxRecDepth 100000 in
theorem zc_X9_fraction (l : Launch) (D : va_G) (cI cZ : ClassId) (x : Nat) (y : Nat) (u1 : Int32) (hx0 : x < 2147483648) (hy0 : y < 2147483648) (hy1 : 0 < y) : zI l yX9_fraction cX9_fraction 4 .int 1 24 D cI cZ [.int (nI x), .int (nI y), .int u1] [] (fun (r : Int32) (u : Unit) => r = zfrac u1 x y) (fun (u : Unit) => []) := by
  refine zI_of (by decide) (Nat.le_of_ble_eq_true rfl) ?_
  intro pP eE sS mM aA bB mT cC A ls Z hP hD hS hl
  have hx := Z.1
  have hb := Z.2.1
  have hown := Z.2.2.2.2.2.1
  have hts := Z.2.2.2.2.1
  have Z : zAt pP sS mM aA mT cC D cI cZ A "SurpriseTaxModel" cX9_fraction 4 (some .int) := Z
  have hl : lv_has ls 4 [(0, .int (nI x)), (1, .int (nI y)), (2, .int u1)] := hl
  obtain ⟨H, hH⟩ : ∃ H, H = sS.heap := ⟨_, rfl⟩
  have hP : va_P D vwCl [] H := by rw [hH]; exact hP
  have hS : va_S A sS.heap H [] := by rw [hH]; exact hS
  rw [← hH]
  clear hH
  obtain ⟨locs, hlo⟩ : ∃ q : List Loc, q = [] := ⟨_, rfl⟩
  rw [← hlo] at hS ⊢
  clear hlo
  have hg0 : 0 < Nat.gcd x y := Nat.gcd_pos_of_pos_right x hy1
  have hg1 : Nat.gcd x y ≤ y := Nat.gcd_le_right x hy1
  refine lv_iload_n hx hb dX9_fraction_0 rfl (lv_at hl 0 rfl) ?_
  refine lv_iload_n hx hb dX9_fraction_1 rfl (lv_at hl 1 rfl) ?_
  refine z_callSi (As := [.int (nI x), .int (nI y)]) (rest := []) Z hP hD hS hl.1 (zc_X9_divisor l D cI cZ x y (by omega) (by omega)) zm850 zm851 zm39 zm852 zd_X9_divisor ⟨Nat.le_of_ble_eq_true rfl, Nat.le_of_ble_eq_true rfl⟩ ⟨Nat.zero_le _, Nat.zero_le _⟩ [] rfl (by decide) (fun _ => rfl) rfl (Nat.le_of_ble_eq_true rfl) rfl dX9_fraction_2 (fun r_1 u H locs h_2 hP hD hS => ?_)
  have hP : va_P D vwCl [] H := hP
  have hD : va_D A [] := hD
  have h_2 : r_1 = nI (Nat.gcd x y) := h_2
  subst h_2
  refine lv_istore_n (lv' := [(3, .int (nI (Nat.gcd x y))), (0, .int (nI x)), (1, .int (nI y)), (2, .int u1)]) hx hb dX9_fraction_5 rfl hl (by decide) rfl (fun ls hl => ?_)
  refine lv_iload_n hx hb dX9_fraction_6 rfl (lv_at hl 3 rfl) ?_
  refine lv_if_eq (tgt := 16) hx hb dX9_fraction_7 (by decide) (fun c_3 => ?_) (fun c_3 => ?_)
  · have c_3 : u1 = 0 := c_3
    refine lv_iload_n hx hb dX9_fraction_16 rfl (lv_at hl 2 rfl) ?_
    refine lv_iload_n hx hb dX9_fraction_17 rfl (lv_at hl 0 rfl) ?_
    refine lv_idiv hx hb dX9_fraction_18 (by exact fun h => by have := zeq (i := Nat.gcd x y) (j := 0) (by omega) (by decide) h; omega) ?_
    refine z_top (y := nI (y / (Nat.gcd x y))) (pk_div (by omega) (by omega) (by omega)) ?_
    exact z_iret Z () (by first | (unfold zfrac; rw [if_pos (by assumption)]) | (unfold zfrac; rw [if_neg (by assumption)])) hP hS dX9_fraction_19
  · have c_3 : ¬ (u1 = 0) := c_3
    refine lv_iload_n hx hb dX9_fraction_10 rfl (lv_at hl 1 rfl) ?_
    refine lv_iload_n hx hb dX9_fraction_11 rfl (lv_at hl 0 rfl) ?_
    refine lv_idiv hx hb dX9_fraction_12 (by exact fun h => by have := zeq (i := Nat.gcd x y) (j := 0) (by omega) (by decide) h; omega) ?_
    refine z_top (y := nI (x / (Nat.gcd x y))) (pk_div (by omega) (by omega) (by omega)) ?_
    refine lv_goto (tgt := 19) hx hb dX9_fraction_13 (by decide) ?_
    exact z_iret Z () (by first | (unfold zfrac; rw [if_pos (by assumption)]) | (unfold zfrac; rw [if_neg (by assumption)])) hP hS dX9_fraction_19

theorem dX9_tenMean_0 : decode cX9_tenMean 0 = .ok (.iconst 0, 1) := by decide +kernel
theorem dX9_tenMean_1 : decode cX9_tenMean 1 = .ok (.istore_n 3, 1) := by decide +kernel
theorem dX9_tenMean_2 : decode cX9_tenMean 2 = .ok (.bipush 7, 2) := by decide +kernel
theorem dX9_tenMean_4 : decode cX9_tenMean 4 = .ok (.iload_n 1, 1) := by decide +kernel
theorem dX9_tenMean_5 : decode cX9_tenMean 5 = .ok (.imul, 1) := by decide +kernel
theorem dX9_tenMean_6 : decode cX9_tenMean 6 = .ok (.istore 4, 2) := by decide +kernel
theorem dX9_tenMean_8 : decode cX9_tenMean 8 = .ok (.iconst 0, 1) := by decide +kernel
theorem dX9_tenMean_9 : decode cX9_tenMean 9 = .ok (.istore 5, 2) := by decide +kernel
theorem dX9_tenMean_11 : decode cX9_tenMean 11 = .ok (.iload 5, 2) := by decide +kernel
theorem dX9_tenMean_13 : decode cX9_tenMean 13 = .ok (.iconst 4, 1) := by decide +kernel
theorem dX9_tenMean_14 : decode cX9_tenMean 14 = .ok (.if_icmp .ge 73, 3) := by decide +kernel
theorem dX9_tenMean_17 : decode cX9_tenMean 17 = .ok (.iload_n 3, 1) := by decide +kernel
theorem dX9_tenMean_18 : decode cX9_tenMean 18 = .ok (.aload_n 0, 1) := by decide +kernel
theorem dX9_tenMean_19 : decode cX9_tenMean 19 = .ok (.getfield 13, 3) := by decide +kernel
theorem dX9_tenMean_22 : decode cX9_tenMean 22 = .ok (.iload 5, 2) := by decide +kernel
theorem dX9_tenMean_24 : decode cX9_tenMean 24 = .ok (.iaload, 1) := by decide +kernel
theorem dX9_tenMean_25 : decode cX9_tenMean 25 = .ok (.aload_n 0, 1) := by decide +kernel
theorem dX9_tenMean_26 : decode cX9_tenMean 26 = .ok (.getfield 125, 3) := by decide +kernel
theorem dX9_tenMean_29 : decode cX9_tenMean 29 = .ok (.imul, 1) := by decide +kernel
theorem dX9_tenMean_30 : decode cX9_tenMean 30 = .ok (.aload_n 0, 1) := by decide +kernel
theorem dX9_tenMean_31 : decode cX9_tenMean 31 = .ok (.getfield 34, 3) := by decide +kernel
theorem dX9_tenMean_34 : decode cX9_tenMean 34 = .ok (.iload 4, 2) := by decide +kernel
theorem dX9_tenMean_36 : decode cX9_tenMean 36 = .ok (.iload 5, 2) := by decide +kernel
theorem dX9_tenMean_38 : decode cX9_tenMean 38 = .ok (.iadd, 1) := by decide +kernel
theorem dX9_tenMean_39 : decode cX9_tenMean 39 = .ok (.iaload, 1) := by decide +kernel
theorem dX9_tenMean_40 : decode cX9_tenMean 40 = .ok (.iload 5, 2) := by decide +kernel
theorem dX9_tenMean_42 : decode cX9_tenMean 42 = .ok (.iload_n 2, 1) := by decide +kernel
theorem dX9_tenMean_43 : decode cX9_tenMean 43 = .ok (.bipush (-9), 2) := by decide +kernel
theorem dX9_tenMean_45 : decode cX9_tenMean 45 = .ok (.if_icmp .ne 15, 3) := by decide +kernel
theorem dX9_tenMean_48 : decode cX9_tenMean 48 = .ok (.aload_n 0, 1) := by decide +kernel
theorem dX9_tenMean_49 : decode cX9_tenMean 49 = .ok (.getfield 34, 3) := by decide +kernel
theorem dX9_tenMean_52 : decode cX9_tenMean 52 = .ok (.iload 4, 2) := by decide +kernel
theorem dX9_tenMean_54 : decode cX9_tenMean 54 = .ok (.iconst 5, 1) := by decide +kernel
theorem dX9_tenMean_55 : decode cX9_tenMean 55 = .ok (.iadd, 1) := by decide +kernel
theorem dX9_tenMean_56 : decode cX9_tenMean 56 = .ok (.iaload, 1) := by decide +kernel
theorem dX9_tenMean_57 : decode cX9_tenMean 57 = .ok (.goto 4, 3) := by decide +kernel
theorem dX9_tenMean_60 : decode cX9_tenMean 60 = .ok (.iload_n 2, 1) := by decide +kernel
theorem dX9_tenMean_61 : decode cX9_tenMean 61 = .ok (.aload_n 0, 1) := by decide +kernel
theorem dX9_tenMean_62 : decode cX9_tenMean 62 = .ok (.getfield 34, 3) := by decide +kernel
theorem dX9_tenMean_65 : decode cX9_tenMean 65 = .ok (.iload 4, 2) := by decide +kernel
theorem dX9_tenMean_67 : decode cX9_tenMean 67 = .ok (.bipush 6, 2) := by decide +kernel
theorem dX9_tenMean_69 : decode cX9_tenMean 69 = .ok (.iadd, 1) := by decide +kernel
theorem dX9_tenMean_70 : decode cX9_tenMean 70 = .ok (.iaload, 1) := by decide +kernel
theorem dX9_tenMean_71 : decode cX9_tenMean 71 = .ok (.aload_n 0, 1) := by decide +kernel
theorem dX9_tenMean_72 : decode cX9_tenMean 72 = .ok (.getfield 128, 3) := by decide +kernel
theorem dX9_tenMean_75 : decode cX9_tenMean 75 = .ok (.invokestatic 152, 3) := by decide +kernel
theorem dX9_tenMean_78 : decode cX9_tenMean 78 = .ok (.imul, 1) := by decide +kernel
theorem dX9_tenMean_79 : decode cX9_tenMean 79 = .ok (.iadd, 1) := by decide +kernel
theorem dX9_tenMean_80 : decode cX9_tenMean 80 = .ok (.istore_n 3, 1) := by decide +kernel
theorem dX9_tenMean_81 : decode cX9_tenMean 81 = .ok (.iinc 5 1, 3) := by decide +kernel
theorem dX9_tenMean_84 : decode cX9_tenMean 84 = .ok (.goto (-73), 3) := by decide +kernel
theorem dX9_tenMean_87 : decode cX9_tenMean 87 = .ok (.iload_n 3, 1) := by decide +kernel
theorem dX9_tenMean_88 : decode cX9_tenMean 88 = .ok (.ireturn, 1) := by decide +kernel
theorem zd_X9_tenMean : yX9_tenMean.cls ≠ "java/lang/invoke/MethodHandle" ∧ yX9_tenMean.cls ≠ "java/lang/invoke/VarHandle" ∧ (parseMethodDescriptor yX9_tenMean.desc).map (fun d => d.parameters.length) = some 2 := by decide +kernel
set_option maxHeartbeats 4000000 in
set_option maxRecDepth 100000 in
theorem zc_X9_tenMean (l : Launch) (D : va_G) (cI cZ : ClassId) (M : Nat) (th : Int32) (mtx : Nat) (len : Nat) (pl : Nat) (rt : Int32) (fr : Int32) (pr : Int32) (mod_ : Nat) (n : Nat) (mne : Nat) (mro : Nat) (m : Nat) (rrt : Int32) (rfr : Int32) (rpr : Int32) (mrod : Nat) (rn9 : Nat) (mrne : Nat) (mrro : Nat) (rm9 : Nat) (mrp : Nat) (mpg : Nat) (mbk : Nat) (ac : Nat) (mke : Nat) (mik : Nat) (cr : Nat) (mrw : Nat) (mrd : Nat) (sd : Int64) (mtr : Nat) (mwo : Nat) (mnx : Nat) (jr : Int32) (od : Nat → Int32) (g : Nat → Int32) (f : Nat → Int32) (p : Nat) (dd : Int32) (hp : p < 5) (hp1 : zp1 p f g) : zI l yX9_tenMean cX9_tenMean 6 .int 1 25 D cI cZ [.ref M, .int (nI p), .int dd] [(M, .inr (9, [.int th, .ref mtx, .int (nI len), .int (nI pl), .int rt, .int fr, .int pr, .ref mod_, .int (nI n), .ref mne, .ref mro, .int (nI m), .int rrt, .int rfr, .int rpr, .ref mrod, .int (nI rn9), .ref mrne, .ref mrro, .int (nI rm9), .ref mrp, .ref mpg, .ref mbk, .int (nI ac), .ref mke, .ref mik, .int (nI cr), .ref mrw, .ref mrd, .long sd, .ref mtr, .ref mwo, .ref mnx, .int jr])), (mod_, .inl (cI, 4, .inl od)), (mpg, .inl (cI, 36, .inl g))] (fun (r : Int32) (u : Unit) => r = zmtd f od rt fr p (if dd = -9 then f (25 + p) else dd) 4) (fun (u : Unit) => [(M, .inr (9, [.int th, .ref mtx, .int (nI len), .int (nI pl), .int rt, .int fr, .int pr, .ref mod_, .int (nI n), .ref mne, .ref mro, .int (nI m), .int rrt, .int rfr, .int rpr, .ref mrod, .int (nI rn9), .ref mrne, .ref mrro, .int (nI rm9), .ref mrp, .ref mpg, .ref mbk, .int (nI ac), .ref mke, .ref mik, .int (nI cr), .ref mrw, .ref mrd, .long sd, .ref mtr, .ref mwo, .ref mnx, .int jr])), (mod_, .inl (cI, 4, .inl od)), (mpg, .inl (cI, 36, .inl g))]) := by
  refine zI_of (by decide) (Nat.le_of_ble_eq_true rfl) ?_
  intro pP eE sS mM aA bB mT cC A ls Z hP hD hS hl
  have hx := Z.1
  have hb := Z.2.1
  have hown := Z.2.2.2.2.2.1
  have hts := Z.2.2.2.2.1
  have Z : zAt pP sS mM aA mT cC D cI cZ A "SurpriseTaxModel" cX9_tenMean 6 (some .int) := Z
  have hl : lv_has ls 6 [(0, .ref M), (1, .int (nI p)), (2, .int dd)] := hl
  obtain ⟨H, hH⟩ : ∃ H, H = sS.heap := ⟨_, rfl⟩
  have hP : va_P D vwCl [(M, .inr (9, [.int th, .ref mtx, .int (nI len), .int (nI pl), .int rt, .int fr, .int pr, .ref mod_, .int (nI n), .ref mne, .ref mro, .int (nI m), .int rrt, .int rfr, .int rpr, .ref mrod, .int (nI rn9), .ref mrne, .ref mrro, .int (nI rm9), .ref mrp, .ref mpg, .ref mbk, .int (nI ac), .ref mke, .ref mik, .int (nI cr), .ref mrw, .ref mrd, .long sd, .ref mtr, .ref mwo, .ref mnx, .int jr])), (mod_, .inl (cI, 4, .inl od)), (mpg, .inl (cI, 36, .inl g))] H := by rw [hH]; exact hP
  have hS : va_S A sS.heap H [] := by rw [hH]; exact hS
  rw [← hH]
  clear hH
  obtain ⟨locs, hlo⟩ : ∃ q : List Loc, q = [] := ⟨_, rfl⟩
  rw [← hlo] at hS ⊢
  clear hlo
  refine lv_iconst (v := nI 0) hx hb dX9_tenMean_0 (by decide) ?_
  refine lv_istore_n (lv' := [(3, .int (nI 0)), (0, .ref M), (1, .int (nI p)), (2, .int dd)]) hx hb dX9_tenMean_1 rfl hl (by decide) rfl (fun ls hl => ?_)
  refine lv_bipush (v := nI 7) hx hb dX9_tenMean_2 (by decide) ?_
  refine lv_iload_n hx hb dX9_tenMean_4 rfl (lv_at hl 2 rfl) ?_
  refine lv_imul hx hb dX9_tenMean_5 ?_
  refine z_top (y := nI (7 * p)) (z_mul _ _) ?_
  refine lv_istore (lv' := [(4, .int (nI (7 * p))), (3, .int (nI 0)), (0, .ref M), (1, .int (nI p)), (2, .int dd)]) hx hb dX9_tenMean_6 hl (by decide) rfl (fun ls hl => ?_)
  refine lv_iconst (v := nI 0) hx hb dX9_tenMean_8 (by decide) ?_
  refine lv_istore (lv' := [(5, .int (nI 0)), (4, .int (nI (7 * p))), (3, .int (nI 0)), (0, .ref M), (1, .int (nI p)), (2, .int dd)]) hx hb dX9_tenMean_9 hl (by decide) rfl (fun ls hl => ?_)
  have hl : lv_has ls 6 [(5, .int (nI 0)), (4, .int (nI (7 * p))), (3, .int (nI 0)), (0, .ref M), (1, .int (nI p)), (2, .int dd)] := lv_sub hl [0, 1, 2, 3, 4, 5] rfl
  have e_2 : nI 0 = zmtd f od rt fr p (if dd = -9 then f (25 + p) else dd) 0 := by rfl
  have hl : lv_has ls 6 [(5, .int (nI 0)), (4, .int (nI (7 * p))), (3, .int (zmtd f od rt fr p (if dd = -9 then f (25 + p) else dd) 0)), (0, .ref M), (1, .int (nI p)), (2, .int dd)] := Eq.subst (motive := fun zz_ => lv_has ls 6 [(5, .int (nI 0)), (4, .int (nI (7 * p))), (3, .int zz_), (0, .ref M), (1, .int (nI p)), (2, .int dd)]) e_2 hl
  refine z_loop (fun k H locs ls => va_P D vwCl [(M, .inr (9, [.int th, .ref mtx, .int (nI len), .int (nI pl), .int rt, .int fr, .int pr, .ref mod_, .int (nI n), .ref mne, .ref mro, .int (nI m), .int rrt, .int rfr, .int rpr, .ref mrod, .int (nI rn9), .ref mrne, .ref mrro, .int (nI rm9), .ref mrp, .ref mpg, .ref mbk, .int (nI ac), .ref mke, .ref mik, .int (nI cr), .ref mrw, .ref mrd, .long sd, .ref mtr, .ref mwo, .ref mnx, .int jr])), (mod_, .inl (cI, 4, .inl od)), (mpg, .inl (cI, 36, .inl g))] H ∧ va_D A [(M, .inr (9, [.int th, .ref mtx, .int (nI len), .int (nI pl), .int rt, .int fr, .int pr, .ref mod_, .int (nI n), .ref mne, .ref mro, .int (nI m), .int rrt, .int rfr, .int rpr, .ref mrod, .int (nI rn9), .ref mrne, .ref mrro, .int (nI rm9), .ref mrp, .ref mpg, .ref mbk, .int (nI ac), .ref mke, .ref mik, .int (nI cr), .ref mrw, .ref mrd, .long sd, .ref mtr, .ref mwo, .ref mnx, .int jr])), (mod_, .inl (cI, 4, .inl od)), (mpg, .inl (cI, 36, .inl g))] ∧ va_S A sS.heap H locs ∧ lv_has ls 6 [(5, .int (nI k)), (4, .int (nI (7 * p))), (3, .int (zmtd f od rt fr p (if dd = -9 then f (25 + p) else dd) k)), (0, .ref M), (1, .int (nI p)), (2, .int dd)]) (4) (lo := 0) (by omega) ⟨hP, hD, hS, hl⟩ (fun k hi_k ih_1 H locs ls hI => ?_)
  obtain ⟨hP, hD, hS, hl⟩ := hI
  have hP : va_P D vwCl [(M, .inr (9, [.int th, .ref mtx, .int (nI len), .int (nI pl), .int rt, .int fr, .int pr, .ref mod_, .int (nI n), .ref mne, .ref mro, .int (nI m), .int rrt, .int rfr, .int rpr, .ref mrod, .int (nI rn9), .ref mrne, .ref mrro, .int (nI rm9), .ref mrp, .ref mpg, .ref mbk, .int (nI ac), .ref mke, .ref mik, .int (nI cr), .ref mrw, .ref mrd, .long sd, .ref mtr, .ref mwo, .ref mnx, .int jr])), (mod_, .inl (cI, 4, .inl od)), (mpg, .inl (cI, 36, .inl g))] H := hP
  have hD : va_D A [(M, .inr (9, [.int th, .ref mtx, .int (nI len), .int (nI pl), .int rt, .int fr, .int pr, .ref mod_, .int (nI n), .ref mne, .ref mro, .int (nI m), .int rrt, .int rfr, .int rpr, .ref mrod, .int (nI rn9), .ref mrne, .ref mrro, .int (nI rm9), .ref mrp, .ref mpg, .ref mbk, .int (nI ac), .ref mke, .ref mik, .int (nI cr), .ref mrw, .ref mrd, .long sd, .ref mtr, .ref mwo, .ref mnx, .int jr])), (mod_, .inl (cI, 4, .inl od)), (mpg, .inl (cI, 36, .inl g))] := hD
  have hl : lv_has ls 6 [(5, .int (nI k)), (4, .int (nI (7 * p))), (3, .int (zmtd f od rt fr p (if dd = -9 then f (25 + p) else dd) k)), (0, .ref M), (1, .int (nI p)), (2, .int dd)] := hl
  refine lv_iload hx hb dX9_tenMean_11 (lv_at hl 0 rfl) ?_
  refine lv_iconst (v := nI 4) hx hb dX9_tenMean_13 (by decide) ?_
  refine lv_icmp_ge (tgt := 87) hx hb dX9_tenMean_14 (by decide) (fun c_3 => ?_) (fun c_3 => ?_)
  · have c_3 := zle (i := 4) (j := k) (by decide) (by omega) c_3
    have hE_ : 4 = k := by omega
    subst hE_
    refine lv_iload_n hx hb dX9_tenMean_87 rfl (lv_at hl 2 rfl) ?_
    exact z_iret Z () rfl hP hS dX9_tenMean_88
  · have c_3 := znle (i := 4) (j := k) (by decide) (by omega) c_3
    refine lv_iload_n hx hb dX9_tenMean_17 rfl (lv_at hl 2 rfl) ?_
    refine lv_aload_n hx hb dX9_tenMean_18 rfl (lv_at hl 3 rfl) ?_
    refine z_get (ci := 9) (v := .ref mod_) Z zin9 hP 0 rfl rfl 7 (by decide) zm684 rfl rfl dX9_tenMean_19 ?_
    refine lv_iload hx hb dX9_tenMean_22 (lv_at hl 0 rfl) ?_
    refine z_iald (n := 4) (f := od) (j := k) Z hP 1 rfl (by omega) (by decide) dX9_tenMean_24 ?_
    refine lv_aload_n hx hb dX9_tenMean_25 rfl (lv_at hl 3 rfl) ?_
    refine z_get (ci := 9) (v := .int rt) Z zin9 hP 0 rfl rfl 4 (by decide) zm681 rfl rfl dX9_tenMean_26 ?_
    refine lv_imul hx hb dX9_tenMean_29 ?_
    refine z_top (y := (od k) * rt) rfl ?_
    refine lv_aload_n hx hb dX9_tenMean_30 rfl (lv_at hl 3 rfl) ?_
    refine z_get (ci := 9) (v := .ref mpg) Z zin9 hP 0 rfl rfl 21 (by decide) zm698 rfl rfl dX9_tenMean_31 ?_
    refine lv_iload hx hb dX9_tenMean_34 (lv_at hl 1 rfl) ?_
    refine lv_iload hx hb dX9_tenMean_36 (lv_at hl 0 rfl) ?_
    refine lv_iadd hx hb dX9_tenMean_38 ?_
    refine z_top (y := nI (7 * p + k)) (z_add _ _) ?_
    refine z_iald (n := 36) (f := g) (j := 7 * p + k) Z hP 2 rfl (by omega) (by decide) dX9_tenMean_39 ?_
    refine lv_iload hx hb dX9_tenMean_40 (lv_at hl 0 rfl) ?_
    refine z_cut (fun H locs ls => va_P D vwCl [(M, .inr (9, [.int th, .ref mtx, .int (nI len), .int (nI pl), .int rt, .int fr, .int pr, .ref mod_, .int (nI n), .ref mne, .ref mro, .int (nI m), .int rrt, .int rfr, .int rpr, .ref mrod, .int (nI rn9), .ref mrne, .ref mrro, .int (nI rm9), .ref mrp, .ref mpg, .ref mbk, .int (nI ac), .ref mke, .ref mik, .int (nI cr), .ref mrw, .ref mrd, .long sd, .ref mtr, .ref mwo, .ref mnx, .int jr])), (mod_, .inl (cI, 4, .inl od)), (mpg, .inl (cI, 36, .inl g))] H ∧ va_D A [(M, .inr (9, [.int th, .ref mtx, .int (nI len), .int (nI pl), .int rt, .int fr, .int pr, .ref mod_, .int (nI n), .ref mne, .ref mro, .int (nI m), .int rrt, .int rfr, .int rpr, .ref mrod, .int (nI rn9), .ref mrne, .ref mrro, .int (nI rm9), .ref mrp, .ref mpg, .ref mbk, .int (nI ac), .ref mke, .ref mik, .int (nI cr), .ref mrw, .ref mrd, .long sd, .ref mtr, .ref mwo, .ref mnx, .int jr])), (mod_, .inl (cI, 4, .inl od)), (mpg, .inl (cI, 36, .inl g))] ∧ va_S A sS.heap H locs ∧ lv_has ls 6 [(5, .int (nI k)), (4, .int (nI (7 * p))), (3, .int (zmtd f od rt fr p (if dd = -9 then f (25 + p) else dd) k)), (0, .ref M), (1, .int (nI p)), (2, .int dd)]) 61 [.int (if dd = -9 then f (25 + p) else dd), .int (nI k), .int (g (7 * p + k)), .int ((od k) * rt), .int (zmtd f od rt fr p (if dd = -9 then f (25 + p) else dd) k)] (fun H locs ls hI => ?_) (fun k_4 => ?_)
    · obtain ⟨hP, hD, hS, hl⟩ := hI
      refine lv_aload_n hx hb dX9_tenMean_61 rfl (lv_at hl 3 rfl) ?_
      refine z_get (ci := 9) (v := .ref mpg) Z zin9 hP 0 rfl rfl 21 (by decide) zm698 rfl rfl dX9_tenMean_62 ?_
      refine lv_iload hx hb dX9_tenMean_65 (lv_at hl 1 rfl) ?_
      refine lv_bipush (v := nI 6) hx hb dX9_tenMean_67 (by decide) ?_
      refine lv_iadd hx hb dX9_tenMean_69 ?_
      refine z_top (y := nI (7 * p + 6)) (z_add _ _) ?_
      refine z_iald (n := 36) (f := g) (j := 7 * p + 6) Z hP 2 rfl (by omega) (by decide) dX9_tenMean_70 ?_
      refine lv_aload_n hx hb dX9_tenMean_71 rfl (lv_at hl 3 rfl) ?_
      refine z_get (ci := 9) (v := .int fr) Z zin9 hP 0 rfl rfl 5 (by decide) zm682 rfl rfl dX9_tenMean_72 ?_
      refine z_callSi (As := [.int (g (7 * p + k)), .int (nI k), .int (if dd = -9 then f (25 + p) else dd), .int (g (7 * p + 6)), .int fr]) (rest := [.int ((od k) * rt), .int (zmtd f od rt fr p (if dd = -9 then f (25 + p) else dd) k)]) Z hP hD hS hl.1 (zc_X9_surprise l D cI cZ (g (7 * p + k)) k (if dd = -9 then f (25 + p) else dd) (g (7 * p + 6)) fr (by omega)) zm826 zm827 zm39 zm828 zd_X9_surprise ⟨Nat.le_of_ble_eq_true rfl, Nat.le_of_ble_eq_true rfl⟩ ⟨Nat.zero_le _, Nat.zero_le _⟩ [] rfl (by decide) (fun _ => rfl) rfl (Nat.le_of_ble_eq_true rfl) rfl dX9_tenMean_75 (fun r_5 u H locs h_6 hP hD hS => ?_)
      have hP : va_P D vwCl [(M, .inr (9, [.int th, .ref mtx, .int (nI len), .int (nI pl), .int rt, .int fr, .int pr, .ref mod_, .int (nI n), .ref mne, .ref mro, .int (nI m), .int rrt, .int rfr, .int rpr, .ref mrod, .int (nI rn9), .ref mrne, .ref mrro, .int (nI rm9), .ref mrp, .ref mpg, .ref mbk, .int (nI ac), .ref mke, .ref mik, .int (nI cr), .ref mrw, .ref mrd, .long sd, .ref mtr, .ref mwo, .ref mnx, .int jr])), (mod_, .inl (cI, 4, .inl od)), (mpg, .inl (cI, 36, .inl g))] H := hP
      have hD : va_D A [(M, .inr (9, [.int th, .ref mtx, .int (nI len), .int (nI pl), .int rt, .int fr, .int pr, .ref mod_, .int (nI n), .ref mne, .ref mro, .int (nI m), .int rrt, .int rfr, .int rpr, .ref mrod, .int (nI rn9), .ref mrne, .ref mrro, .int (nI rm9), .ref mrp, .ref mpg, .ref mbk, .int (nI ac), .ref mke, .ref mik, .int (nI cr), .ref mrw, .ref mrd, .long sd, .ref mtr, .ref mwo, .ref mnx, .int jr])), (mod_, .inl (cI, 4, .inl od)), (mpg, .inl (cI, 36, .inl g))] := hD
      have h_6 : r_5 = zsu (g (7 * p + k)) (if dd = -9 then f (25 + p) else dd) (g (7 * p + 6)) (nI k) fr := h_6
      subst h_6
      refine lv_imul hx hb dX9_tenMean_78 ?_
      refine z_top (y := ((od k) * rt) * (zsu (g (7 * p + k)) (if dd = -9 then f (25 + p) else dd) (g (7 * p + 6)) (nI k) fr)) rfl ?_
      refine lv_iadd hx hb dX9_tenMean_79 ?_
      refine z_top (y := (zmtd f od rt fr p (if dd = -9 then f (25 + p) else dd) k) + (((od k) * rt) * (zsu (g (7 * p + k)) (if dd = -9 then f (25 + p) else dd) (g (7 * p + 6)) (nI k) fr))) rfl ?_
      refine lv_istore_n (lv' := [(3, .int ((zmtd f od rt fr p (if dd = -9 then f (25 + p) else dd) k) + (((od k) * rt) * (zsu (g (7 * p + k)) (if dd = -9 then f (25 + p) else dd) (g (7 * p + 6)) (nI k) fr)))), (5, .int (nI k)), (4, .int (nI (7 * p))), (0, .ref M), (1, .int (nI p)), (2, .int dd)]) hx hb dX9_tenMean_80 rfl hl (by decide) rfl (fun ls hl => ?_)
      refine lv_iinc (v := nI (k + 1)) (lv' := [(5, .int (nI (k + 1))), (3, .int ((zmtd f od rt fr p (if dd = -9 then f (25 + p) else dd) k) + (((od k) * rt) * (zsu (g (7 * p + k)) (if dd = -9 then f (25 + p) else dd) (g (7 * p + 6)) (nI k) fr)))), (4, .int (nI (7 * p))), (0, .ref M), (1, .int (nI p)), (2, .int dd)]) hx hb dX9_tenMean_81 hl (k := 1) rfl (z_inc _ 1) (by decide) rfl (fun ls hl => ?_)
      refine lv_goto (tgt := 11) hx hb dX9_tenMean_84 (by decide) ?_
      have hl : lv_has ls 6 [(5, .int (nI (k + 1))), (4, .int (nI (7 * p))), (3, .int ((zmtd f od rt fr p (if dd = -9 then f (25 + p) else dd) k) + (((od k) * rt) * (zsu (g (7 * p + k)) (if dd = -9 then f (25 + p) else dd) (g (7 * p + 6)) (nI k) fr)))), (0, .ref M), (1, .int (nI p)), (2, .int dd)] := lv_sub hl [0, 2, 1, 3, 4, 5] rfl
      have e_7 : (zmtd f od rt fr p (if dd = -9 then f (25 + p) else dd) k) + (((od k) * rt) * (zsu (g (7 * p + k)) (if dd = -9 then f (25 + p) else dd) (g (7 * p + 6)) (nI k) fr)) = zmtd f od rt fr p (if dd = -9 then f (25 + p) else dd) (k + 1) := by first | exact zmtd_g hp1 (by omega) | rfl
      have hl : lv_has ls 6 [(5, .int (nI (k + 1))), (4, .int (nI (7 * p))), (3, .int (zmtd f od rt fr p (if dd = -9 then f (25 + p) else dd) (k + 1))), (0, .ref M), (1, .int (nI p)), (2, .int dd)] := Eq.subst (motive := fun zz_ => lv_has ls 6 [(5, .int (nI (k + 1))), (4, .int (nI (7 * p))), (3, .int zz_), (0, .ref M), (1, .int (nI p)), (2, .int dd)]) e_7 hl
      exact ih_1 _ _ _ (by omega) ⟨hP, hD, hS, hl⟩
    · skip
      refine lv_iload_n hx hb dX9_tenMean_42 rfl (lv_at hl 5 rfl) ?_
      refine lv_bipush (v := -9) hx hb dX9_tenMean_43 (by decide) ?_
      refine lv_icmp_ne (tgt := 60) hx hb dX9_tenMean_45 (by decide) (fun c_8 => ?_) (fun c_8 => ?_)
      · have c_8 : ¬ (dd = (-9)) := c_8
        refine lv_iload_n hx hb dX9_tenMean_60 rfl (lv_at hl 5 rfl) ?_
        have hl : lv_has ls 6 [(5, .int (nI k)), (4, .int (nI (7 * p))), (3, .int (zmtd f od rt fr p (if dd = -9 then f (25 + p) else dd) k)), (0, .ref M), (1, .int (nI p)), (2, .int dd)] := lv_sub hl [0, 1, 2, 3, 4, 5] rfl
        refine z_top (y := if dd = -9 then f (25 + p) else dd) (by first | (rw [if_pos (by assumption)]; exact hp1.2.2.1) | rw [if_neg (by assumption)] | rfl) ?_
        exact k_4 _ _ _ ⟨hP, hD, hS, hl⟩
      · have c_8 : dd = (-9) := c_8
        refine lv_aload_n hx hb dX9_tenMean_48 rfl (lv_at hl 3 rfl) ?_
        refine z_get (ci := 9) (v := .ref mpg) Z zin9 hP 0 rfl rfl 21 (by decide) zm698 rfl rfl dX9_tenMean_49 ?_
        refine lv_iload hx hb dX9_tenMean_52 (lv_at hl 1 rfl) ?_
        refine lv_iconst (v := nI 5) hx hb dX9_tenMean_54 (by decide) ?_
        refine lv_iadd hx hb dX9_tenMean_55 ?_
        refine z_top (y := nI (7 * p + 5)) (z_add _ _) ?_
        refine z_iald (n := 36) (f := g) (j := 7 * p + 5) Z hP 2 rfl (by omega) (by decide) dX9_tenMean_56 ?_
        refine lv_goto (tgt := 61) hx hb dX9_tenMean_57 (by decide) ?_
        have hl : lv_has ls 6 [(5, .int (nI k)), (4, .int (nI (7 * p))), (3, .int (zmtd f od rt fr p (if dd = -9 then f (25 + p) else dd) k)), (0, .ref M), (1, .int (nI p)), (2, .int dd)] := lv_sub hl [0, 1, 2, 3, 4, 5] rfl
        refine z_top (y := if dd = -9 then f (25 + p) else dd) (by first | (rw [if_pos (by assumption)]; exact hp1.2.2.1) | rw [if_neg (by assumption)] | rfl) ?_
        exact k_4 _ _ _ ⟨hP, hD, hS, hl⟩

theorem dX9_mean_0 : decode cX9_mean 0 = .ok (.aload_n 0, 1) := by decide +kernel
theorem dX9_mean_1 : decode cX9_mean 1 = .ok (.iconst 0, 1) := by decide +kernel
theorem dX9_mean_2 : decode cX9_mean 2 = .ok (.putfield 62, 3) := by decide +kernel
theorem dX9_mean_5 : decode cX9_mean 5 = .ok (.aload_n 0, 1) := by decide +kernel
theorem dX9_mean_6 : decode cX9_mean 6 = .ok (.iload_n 1, 1) := by decide +kernel
theorem dX9_mean_7 : decode cX9_mean 7 = .ok (.invokevirtual 147, 3) := by decide +kernel
theorem dX9_mean_10 : decode cX9_mean 10 = .ok (.ifCond .eq 7, 3) := by decide +kernel
theorem dX9_mean_13 : decode cX9_mean 13 = .ok (.iconst (-1), 1) := by decide +kernel
theorem dX9_mean_14 : decode cX9_mean 14 = .ok (.goto 16, 3) := by decide +kernel
theorem dX9_mean_17 : decode cX9_mean 17 = .ok (.aload_n 0, 1) := by decide +kernel
theorem dX9_mean_18 : decode cX9_mean 18 = .ok (.iload_n 1, 1) := by decide +kernel
theorem dX9_mean_19 : decode cX9_mean 19 = .ok (.bipush (-9), 2) := by decide +kernel
theorem dX9_mean_21 : decode cX9_mean 21 = .ok (.invokevirtual 177, 3) := by decide +kernel
theorem dX9_mean_24 : decode cX9_mean 24 = .ok (.bipush 10, 2) := by decide +kernel
theorem dX9_mean_26 : decode cX9_mean 26 = .ok (.iload_n 2, 1) := by decide +kernel
theorem dX9_mean_27 : decode cX9_mean 27 = .ok (.invokestatic 180, 3) := by decide +kernel
theorem dX9_mean_30 : decode cX9_mean 30 = .ok (.ireturn, 1) := by decide +kernel
theorem zd_X9_mean : yX9_mean.cls ≠ "java/lang/invoke/MethodHandle" ∧ yX9_mean.cls ≠ "java/lang/invoke/VarHandle" ∧ (parseMethodDescriptor yX9_mean.desc).map (fun d => d.parameters.length) = some 2 := by decide +kernel
set_option maxHeartbeats 4000000 in
set_option maxRecDepth 100000 in
theorem zc_X9_mean (l : Launch) (D : va_G) (cI cZ : ClassId) (M : Nat) (th : Int32) (mtx : Nat) (len : Nat) (pl : Nat) (rt : Int32) (fr : Int32) (pr : Int32) (mod_ : Nat) (n : Nat) (mne : Nat) (mro : Nat) (m : Nat) (rrt : Int32) (rfr : Int32) (rpr : Int32) (mrod : Nat) (rn9 : Nat) (mrne : Nat) (mrro : Nat) (rm9 : Nat) (mrp : Nat) (mpg : Nat) (mbk : Nat) (ac : Nat) (mke : Nat) (mik : Nat) (cr : Nat) (mrw : Nat) (mrd : Nat) (sd : Int64) (mtr : Nat) (mwo : Nat) (mnx : Nat) (jr : Int32) (od : Nat → Int32) (g : Nat → Int32) (f : Nat → Int32) (x1 : Int32) (u1 : Int32) (hn : n ≤ 5) (hpg : zpr n f g) (hmt : ∀ p, p < n → ∃ q, zmt f od rt fr p 4 = nI q ∧ q < 2147483648) : zI l yX9_mean cX9_mean 3 .int 2 50 D cI cZ [.ref M, .int x1, .int u1] [(M, .inr (9, [.int th, .ref mtx, .int (nI len), .int (nI pl), .int rt, .int fr, .int pr, .ref mod_, .int (nI n), .ref mne, .ref mro, .int (nI m), .int rrt, .int rfr, .int rpr, .ref mrod, .int (nI rn9), .ref mrne, .ref mrro, .int (nI rm9), .ref mrp, .ref mpg, .ref mbk, .int (nI ac), .ref mke, .ref mik, .int (nI cr), .ref mrw, .ref mrd, .long sd, .ref mtr, .ref mwo, .ref mnx, .int jr])), (mod_, .inl (cI, 4, .inl od)), (mpg, .inl (cI, 36, .inl g))] (fun (r : Int32) (u : Unit) => r = zPa n x1 (fun p => zfrac u1 (zmt f od rt fr p 4).toNatClampNeg 10) (-1)) (fun (u : Unit) => [(M, .inr (9, [.int (nI 0), .ref mtx, .int (nI len), .int (nI pl), .int rt, .int fr, .int pr, .ref mod_, .int (nI n), .ref mne, .ref mro, .int (nI m), .int rrt, .int rfr, .int rpr, .ref mrod, .int (nI rn9), .ref mrne, .ref mrro, .int (nI rm9), .ref mrp, .ref mpg, .ref mbk, .int (nI ac), .ref mke, .ref mik, .int (nI cr), .ref mrw, .ref mrd, .long sd, .ref mtr, .ref mwo, .ref mnx, .int jr])), (mod_, .inl (cI, 4, .inl od)), (mpg, .inl (cI, 36, .inl g))]) := by
  refine zI_of (by decide) (Nat.le_of_ble_eq_true rfl) ?_
  intro pP eE sS mM aA bB mT cC A ls Z hP hD hS hl
  have hx := Z.1
  have hb := Z.2.1
  have hown := Z.2.2.2.2.2.1
  have hts := Z.2.2.2.2.1
  have Z : zAt pP sS mM aA mT cC D cI cZ A "SurpriseTaxModel" cX9_mean 3 (some .int) := Z
  have hl : lv_has ls 3 [(0, .ref M), (1, .int x1), (2, .int u1)] := hl
  obtain ⟨H, hH⟩ : ∃ H, H = sS.heap := ⟨_, rfl⟩
  have hP : va_P D vwCl [(M, .inr (9, [.int th, .ref mtx, .int (nI len), .int (nI pl), .int rt, .int fr, .int pr, .ref mod_, .int (nI n), .ref mne, .ref mro, .int (nI m), .int rrt, .int rfr, .int rpr, .ref mrod, .int (nI rn9), .ref mrne, .ref mrro, .int (nI rm9), .ref mrp, .ref mpg, .ref mbk, .int (nI ac), .ref mke, .ref mik, .int (nI cr), .ref mrw, .ref mrd, .long sd, .ref mtr, .ref mwo, .ref mnx, .int jr])), (mod_, .inl (cI, 4, .inl od)), (mpg, .inl (cI, 36, .inl g))] H := by rw [hH]; exact hP
  have hS : va_S A sS.heap H [] := by rw [hH]; exact hS
  rw [← hH]
  clear hH
  obtain ⟨locs, hlo⟩ : ∃ q : List Loc, q = [] := ⟨_, rfl⟩
  rw [← hlo] at hS ⊢
  clear hlo
  refine lv_aload_n hx hb dX9_mean_0 rfl (lv_at hl 0 rfl) ?_
  refine lv_iconst (v := nI 0) hx hb dX9_mean_1 (by decide) ?_
  refine z_put (ci := 9) (v := .int (nI 0)) Z zin9 tyX9 tyX9_ok nmX9 hP hD hS 0 rfl rfl 0 (by decide) zm677 rfl rfl rfl rfl (Nat.le_of_ble_eq_true rfl) dX9_mean_2 (fun H locs hP hD hS => ?_)
  have hP : va_P D vwCl [(M, .inr (9, [.int (nI 0), .ref mtx, .int (nI len), .int (nI pl), .int rt, .int fr, .int pr, .ref mod_, .int (nI n), .ref mne, .ref mro, .int (nI m), .int rrt, .int rfr, .int rpr, .ref mrod, .int (nI rn9), .ref mrne, .ref mrro, .int (nI rm9), .ref mrp, .ref mpg, .ref mbk, .int (nI ac), .ref mke, .ref mik, .int (nI cr), .ref mrw, .ref mrd, .long sd, .ref mtr, .ref mwo, .ref mnx, .int jr])), (mod_, .inl (cI, 4, .inl od)), (mpg, .inl (cI, 36, .inl g))] H := hP
  have hD : va_D A [(M, .inr (9, [.int (nI 0), .ref mtx, .int (nI len), .int (nI pl), .int rt, .int fr, .int pr, .ref mod_, .int (nI n), .ref mne, .ref mro, .int (nI m), .int rrt, .int rfr, .int rpr, .ref mrod, .int (nI rn9), .ref mrne, .ref mrro, .int (nI rm9), .ref mrp, .ref mpg, .ref mbk, .int (nI ac), .ref mke, .ref mik, .int (nI cr), .ref mrw, .ref mrd, .long sd, .ref mtr, .ref mwo, .ref mnx, .int jr])), (mod_, .inl (cI, 4, .inl od)), (mpg, .inl (cI, 36, .inl g))] := hD
  refine lv_aload_n hx hb dX9_mean_5 rfl (lv_at hl 0 rfl) ?_
  refine lv_iload_n hx hb dX9_mean_6 rfl (lv_at hl 1 rfl) ?_
  refine z_callVi (As := [.int x1]) (rest := []) (ci := 9) (k0 := 0) Z hP hD hS hl.1 (zc_X9_noOne l D cI cZ M (nI 0) mtx len pl rt fr pr mod_ n mne mro m rrt rfr rpr mrod rn9 mrne mrro rm9 mrp mpg mbk ac mke mik cr mrw mrd sd mtr mwo mnx jr x1 (by omega)) zm797 zm798 zm19 zm39 zm799 ⟨rfl, zd_X9_noOne⟩ ⟨Nat.le_of_ble_eq_true rfl, Nat.le_of_ble_eq_true rfl⟩ ⟨Nat.zero_le _, Nat.zero_le _⟩ [0] rfl (by decide) rfl rfl rfl (fun _ => rfl) rfl (Nat.le_of_ble_eq_true rfl) rfl dX9_mean_7 (fun r_1 u H locs h_2 hP hD hS => ?_)
  have hP : va_P D vwCl [(M, .inr (9, [.int (nI 0), .ref mtx, .int (nI len), .int (nI pl), .int rt, .int fr, .int pr, .ref mod_, .int (nI n), .ref mne, .ref mro, .int (nI m), .int rrt, .int rfr, .int rpr, .ref mrod, .int (nI rn9), .ref mrne, .ref mrro, .int (nI rm9), .ref mrp, .ref mpg, .ref mbk, .int (nI ac), .ref mke, .ref mik, .int (nI cr), .ref mrw, .ref mrd, .long sd, .ref mtr, .ref mwo, .ref mnx, .int jr])), (mod_, .inl (cI, 4, .inl od)), (mpg, .inl (cI, 36, .inl g))] H := hP
  have hD : va_D A [(M, .inr (9, [.int (nI 0), .ref mtx, .int (nI len), .int (nI pl), .int rt, .int fr, .int pr, .ref mod_, .int (nI n), .ref mne, .ref mro, .int (nI m), .int rrt, .int rfr, .int rpr, .ref mrod, .int (nI rn9), .ref mrne, .ref mrro, .int (nI rm9), .ref mrp, .ref mpg, .ref mbk, .int (nI ac), .ref mke, .ref mik, .int (nI cr), .ref mrw, .ref mrd, .long sd, .ref mtr, .ref mwo, .ref mnx, .int jr])), (mod_, .inl (cI, 4, .inl od)), (mpg, .inl (cI, 36, .inl g))] := hD
  have h_2 : r_1 = if ¬ zhas n x1 then 1 else 0 := h_2
  subst h_2
  refine lv_if_eq (tgt := 17) hx hb dX9_mean_10 (by decide) (fun c_3 => ?_) (fun c_3 => ?_)
  · have c_3 := zb0 c_3
    have hzz := Classical.not_not.mp c_3
    obtain ⟨p, hp, rfl⟩ := zhas_of (by omega) hzz
    refine lv_aload_n hx hb dX9_mean_17 rfl (lv_at hl 0 rfl) ?_
    refine lv_iload_n hx hb dX9_mean_18 rfl (lv_at hl 1 rfl) ?_
    refine lv_bipush (v := -9) hx hb dX9_mean_19 (by decide) ?_
    refine z_callVi (As := [.int (nI p), .int (-9)]) (rest := []) (ci := 9) (k0 := 0) Z hP hD hS hl.1 (zc_X9_tenMean l D cI cZ M (nI 0) mtx len pl rt fr pr mod_ n mne mro m rrt rfr rpr mrod rn9 mrne mrro rm9 mrp mpg mbk ac mke mik cr mrw mrd sd mtr mwo mnx jr od g f p (-9) (by first | omega | exact hpg.1 p hp) (by first | omega | exact hpg.1 p hp)) zm844 zm845 zm23 zm39 zm846 ⟨rfl, zd_X9_tenMean⟩ ⟨Nat.le_of_ble_eq_true rfl, Nat.le_of_ble_eq_true rfl⟩ ⟨Nat.zero_le _, Nat.zero_le _⟩ [0, 1, 2] rfl (by decide) rfl rfl rfl (fun _ => rfl) rfl (Nat.le_of_ble_eq_true rfl) rfl dX9_mean_21 (fun r_4 u H locs h_5 hP hD hS => ?_)
    have hP : va_P D vwCl [(M, .inr (9, [.int (nI 0), .ref mtx, .int (nI len), .int (nI pl), .int rt, .int fr, .int pr, .ref mod_, .int (nI n), .ref mne, .ref mro, .int (nI m), .int rrt, .int rfr, .int rpr, .ref mrod, .int (nI rn9), .ref mrne, .ref mrro, .int (nI rm9), .ref mrp, .ref mpg, .ref mbk, .int (nI ac), .ref mke, .ref mik, .int (nI cr), .ref mrw, .ref mrd, .long sd, .ref mtr, .ref mwo, .ref mnx, .int jr])), (mod_, .inl (cI, 4, .inl od)), (mpg, .inl (cI, 36, .inl g))] H := hP
    have hD : va_D A [(M, .inr (9, [.int (nI 0), .ref mtx, .int (nI len), .int (nI pl), .int rt, .int fr, .int pr, .ref mod_, .int (nI n), .ref mne, .ref mro, .int (nI m), .int rrt, .int rfr, .int rpr, .ref mrod, .int (nI rn9), .ref mrne, .ref mrro, .int (nI rm9), .ref mrp, .ref mpg, .ref mbk, .int (nI ac), .ref mke, .ref mik, .int (nI cr), .ref mrw, .ref mrd, .long sd, .ref mtr, .ref mwo, .ref mnx, .int jr])), (mod_, .inl (cI, 4, .inl od)), (mpg, .inl (cI, 36, .inl g))] := hD
    have h_5 : r_4 = zmtd f od rt fr p (if (-9) = -9 then f (25 + p) else (-9)) 4 := h_5
    subst h_5
    obtain ⟨q, hq, hq2⟩ := hmt p hp
    refine z_top (y := nI q) (zmt_own.trans hq) ?_
    refine lv_bipush (v := nI 10) hx hb dX9_mean_24 (by decide) ?_
    refine lv_iload_n hx hb dX9_mean_26 rfl (lv_at hl 2 rfl) ?_
    refine z_callSi (As := [.int (nI q), .int (nI 10), .int u1]) (rest := []) Z hP hD hS hl.1 (zc_X9_fraction l D cI cZ q 10 u1 (by omega) (by omega) (by omega)) zm847 zm848 zm39 zm849 zd_X9_fraction ⟨Nat.le_of_ble_eq_true rfl, Nat.le_of_ble_eq_true rfl⟩ ⟨Nat.zero_le _, Nat.zero_le _⟩ [] rfl (by decide) (fun _ => rfl) rfl (Nat.le_of_ble_eq_true rfl) rfl dX9_mean_27 (fun r_6 u H locs h_7 hP hD hS => ?_)
    have hP : va_P D vwCl [(M, .inr (9, [.int (nI 0), .ref mtx, .int (nI len), .int (nI pl), .int rt, .int fr, .int pr, .ref mod_, .int (nI n), .ref mne, .ref mro, .int (nI m), .int rrt, .int rfr, .int rpr, .ref mrod, .int (nI rn9), .ref mrne, .ref mrro, .int (nI rm9), .ref mrp, .ref mpg, .ref mbk, .int (nI ac), .ref mke, .ref mik, .int (nI cr), .ref mrw, .ref mrd, .long sd, .ref mtr, .ref mwo, .ref mnx, .int jr])), (mod_, .inl (cI, 4, .inl od)), (mpg, .inl (cI, 36, .inl g))] H := hP
    have hD : va_D A [(M, .inr (9, [.int (nI 0), .ref mtx, .int (nI len), .int (nI pl), .int rt, .int fr, .int pr, .ref mod_, .int (nI n), .ref mne, .ref mro, .int (nI m), .int rrt, .int rfr, .int rpr, .ref mrod, .int (nI rn9), .ref mrne, .ref mrro, .int (nI rm9), .ref mrp, .ref mpg, .ref mbk, .int (nI ac), .ref mke, .ref mik, .int (nI cr), .ref mrw, .ref mrd, .long sd, .ref mtr, .ref mwo, .ref mnx, .int jr])), (mod_, .inl (cI, 4, .inl od)), (mpg, .inl (cI, 36, .inl g))] := hD
    have h_7 : r_6 = zfrac u1 q 10 := h_7
    subst h_7
    exact z_iret Z () (by first | rw [zPa_n (by assumption)] | (rw [zPa_y hp hn, hq, nI_clamp hq2]) | rfl) hP hS dX9_mean_30
  · have c_3 := zb1 c_3
    refine lv_iconst (v := -1) hx hb dX9_mean_13 (by decide) ?_
    refine lv_goto (tgt := 30) hx hb dX9_mean_14 (by decide) ?_
    exact z_iret Z () (by first | rw [zPa_n (by assumption)] | (rw [zPa_y hp hn, hq, nI_clamp hq2]) | rfl) hP hS dX9_mean_30

theorem dX9_counselOf_0 : decode cX9_counselOf 0 = .ok (.aload_n 0, 1) := by decide +kernel
theorem dX9_counselOf_1 : decode cX9_counselOf 1 = .ok (.iload_n 1, 1) := by decide +kernel
theorem dX9_counselOf_2 : decode cX9_counselOf 2 = .ok (.bipush (-9), 2) := by decide +kernel
theorem dX9_counselOf_4 : decode cX9_counselOf 4 = .ok (.invokevirtual 177, 3) := by decide +kernel
theorem dX9_counselOf_7 : decode cX9_counselOf 7 = .ok (.istore_n 2, 1) := by decide +kernel
theorem dX9_counselOf_8 : decode cX9_counselOf 8 = .ok (.bipush (-9), 2) := by decide +kernel
theorem dX9_counselOf_10 : decode cX9_counselOf 10 = .ok (.istore_n 3, 1) := by decide +kernel
theorem dX9_counselOf_11 : decode cX9_counselOf 11 = .ok (.iconst 0, 1) := by decide +kernel
theorem dX9_counselOf_12 : decode cX9_counselOf 12 = .ok (.istore 4, 2) := by decide +kernel
theorem dX9_counselOf_14 : decode cX9_counselOf 14 = .ok (.iload 4, 2) := by decide +kernel
theorem dX9_counselOf_16 : decode cX9_counselOf 16 = .ok (.iconst 4, 1) := by decide +kernel
theorem dX9_counselOf_17 : decode cX9_counselOf 17 = .ok (.if_icmp .ge 52, 3) := by decide +kernel
theorem dX9_counselOf_20 : decode cX9_counselOf 20 = .ok (.bipush 10, 2) := by decide +kernel
theorem dX9_counselOf_22 : decode cX9_counselOf 22 = .ok (.aload_n 0, 1) := by decide +kernel
theorem dX9_counselOf_23 : decode cX9_counselOf 23 = .ok (.getfield 131, 3) := by decide +kernel
theorem dX9_counselOf_26 : decode cX9_counselOf 26 = .ok (.imul, 1) := by decide +kernel
theorem dX9_counselOf_27 : decode cX9_counselOf 27 = .ok (.aload_n 0, 1) := by decide +kernel
theorem dX9_counselOf_28 : decode cX9_counselOf 28 = .ok (.iload_n 1, 1) := by decide +kernel
theorem dX9_counselOf_29 : decode cX9_counselOf 29 = .ok (.iload 4, 2) := by decide +kernel
theorem dX9_counselOf_31 : decode cX9_counselOf 31 = .ok (.invokevirtual 177, 3) := by decide +kernel
theorem dX9_counselOf_34 : decode cX9_counselOf 34 = .ok (.iadd, 1) := by decide +kernel
theorem dX9_counselOf_35 : decode cX9_counselOf 35 = .ok (.istore 5, 2) := by decide +kernel
theorem dX9_counselOf_37 : decode cX9_counselOf 37 = .ok (.iload 5, 2) := by decide +kernel
theorem dX9_counselOf_39 : decode cX9_counselOf 39 = .ok (.iload_n 2, 1) := by decide +kernel
theorem dX9_counselOf_40 : decode cX9_counselOf 40 = .ok (.if_icmp .ge 8, 3) := by decide +kernel
theorem dX9_counselOf_43 : decode cX9_counselOf 43 = .ok (.iload 4, 2) := by decide +kernel
theorem dX9_counselOf_45 : decode cX9_counselOf 45 = .ok (.goto 4, 3) := by decide +kernel
theorem dX9_counselOf_48 : decode cX9_counselOf 48 = .ok (.iload_n 3, 1) := by decide +kernel
theorem dX9_counselOf_49 : decode cX9_counselOf 49 = .ok (.istore_n 3, 1) := by decide +kernel
theorem dX9_counselOf_50 : decode cX9_counselOf 50 = .ok (.iload 5, 2) := by decide +kernel
theorem dX9_counselOf_52 : decode cX9_counselOf 52 = .ok (.iload_n 2, 1) := by decide +kernel
theorem dX9_counselOf_53 : decode cX9_counselOf 53 = .ok (.if_icmp .ge 8, 3) := by decide +kernel
theorem dX9_counselOf_56 : decode cX9_counselOf 56 = .ok (.iload 5, 2) := by decide +kernel
theorem dX9_counselOf_58 : decode cX9_counselOf 58 = .ok (.goto 4, 3) := by decide +kernel
theorem dX9_counselOf_61 : decode cX9_counselOf 61 = .ok (.iload_n 2, 1) := by decide +kernel
theorem dX9_counselOf_62 : decode cX9_counselOf 62 = .ok (.istore_n 2, 1) := by decide +kernel
theorem dX9_counselOf_63 : decode cX9_counselOf 63 = .ok (.iinc 4 1, 3) := by decide +kernel
theorem dX9_counselOf_66 : decode cX9_counselOf 66 = .ok (.goto (-52), 3) := by decide +kernel
theorem dX9_counselOf_69 : decode cX9_counselOf 69 = .ok (.iload_n 3, 1) := by decide +kernel
theorem dX9_counselOf_70 : decode cX9_counselOf 70 = .ok (.ireturn, 1) := by decide +kernel
theorem zd_X9_counselOf : yX9_counselOf.cls ≠ "java/lang/invoke/MethodHandle" ∧ yX9_counselOf.cls ≠ "java/lang/invoke/VarHandle" ∧ (parseMethodDescriptor yX9_counselOf.desc).map (fun d => d.parameters.length) = some 1 := by decide +kernel
set_option maxHeartbeats 4000000 in
set_option maxRecDepth 100000 in
theorem zc_X9_counselOf (l : Launch) (D : va_G) (cI cZ : ClassId) (M : Nat) (th : Int32) (mtx : Nat) (len : Nat) (pl : Nat) (rt : Int32) (fr : Int32) (pr : Int32) (mod_ : Nat) (n : Nat) (mne : Nat) (mro : Nat) (m : Nat) (rrt : Int32) (rfr : Int32) (rpr : Int32) (mrod : Nat) (rn9 : Nat) (mrne : Nat) (mrro : Nat) (rm9 : Nat) (mrp : Nat) (mpg : Nat) (mbk : Nat) (ac : Nat) (mke : Nat) (mik : Nat) (cr : Nat) (mrw : Nat) (mrd : Nat) (sd : Int64) (mtr : Nat) (mwo : Nat) (mnx : Nat) (jr : Int32) (od : Nat → Int32) (g : Nat → Int32) (f : Nat → Int32) (p : Nat) (hp : p < 5) (hp1 : zp1 p f g) : zI l yX9_counselOf cX9_counselOf 6 .int 2 50 D cI cZ [.ref M, .int (nI p)] [(M, .inr (9, [.int th, .ref mtx, .int (nI len), .int (nI pl), .int rt, .int fr, .int pr, .ref mod_, .int (nI n), .ref mne, .ref mro, .int (nI m), .int rrt, .int rfr, .int rpr, .ref mrod, .int (nI rn9), .ref mrne, .ref mrro, .int (nI rm9), .ref mrp, .ref mpg, .ref mbk, .int (nI ac), .ref mke, .ref mik, .int (nI cr), .ref mrw, .ref mrd, .long sd, .ref mtr, .ref mwo, .ref mnx, .int jr])), (mod_, .inl (cI, 4, .inl od)), (mpg, .inl (cI, 36, .inl g))] (fun (r : Int32) (u : Unit) => r = (zch f od rt fr pr p 4).1) (fun (u : Unit) => [(M, .inr (9, [.int th, .ref mtx, .int (nI len), .int (nI pl), .int rt, .int fr, .int pr, .ref mod_, .int (nI n), .ref mne, .ref mro, .int (nI m), .int rrt, .int rfr, .int rpr, .ref mrod, .int (nI rn9), .ref mrne, .ref mrro, .int (nI rm9), .ref mrp, .ref mpg, .ref mbk, .int (nI ac), .ref mke, .ref mik, .int (nI cr), .ref mrw, .ref mrd, .long sd, .ref mtr, .ref mwo, .ref mnx, .int jr])), (mod_, .inl (cI, 4, .inl od)), (mpg, .inl (cI, 36, .inl g))]) := by
  refine zI_of (by decide) (Nat.le_of_ble_eq_true rfl) ?_
  intro pP eE sS mM aA bB mT cC A ls Z hP hD hS hl
  have hx := Z.1
  have hb := Z.2.1
  have hown := Z.2.2.2.2.2.1
  have hts := Z.2.2.2.2.1
  have Z : zAt pP sS mM aA mT cC D cI cZ A "SurpriseTaxModel" cX9_counselOf 6 (some .int) := Z
  have hl : lv_has ls 6 [(0, .ref M), (1, .int (nI p))] := hl
  obtain ⟨H, hH⟩ : ∃ H, H = sS.heap := ⟨_, rfl⟩
  have hP : va_P D vwCl [(M, .inr (9, [.int th, .ref mtx, .int (nI len), .int (nI pl), .int rt, .int fr, .int pr, .ref mod_, .int (nI n), .ref mne, .ref mro, .int (nI m), .int rrt, .int rfr, .int rpr, .ref mrod, .int (nI rn9), .ref mrne, .ref mrro, .int (nI rm9), .ref mrp, .ref mpg, .ref mbk, .int (nI ac), .ref mke, .ref mik, .int (nI cr), .ref mrw, .ref mrd, .long sd, .ref mtr, .ref mwo, .ref mnx, .int jr])), (mod_, .inl (cI, 4, .inl od)), (mpg, .inl (cI, 36, .inl g))] H := by rw [hH]; exact hP
  have hS : va_S A sS.heap H [] := by rw [hH]; exact hS
  rw [← hH]
  clear hH
  obtain ⟨locs, hlo⟩ : ∃ q : List Loc, q = [] := ⟨_, rfl⟩
  rw [← hlo] at hS ⊢
  clear hlo
  refine lv_aload_n hx hb dX9_counselOf_0 rfl (lv_at hl 0 rfl) ?_
  refine lv_iload_n hx hb dX9_counselOf_1 rfl (lv_at hl 1 rfl) ?_
  refine lv_bipush (v := -9) hx hb dX9_counselOf_2 (by decide) ?_
  refine z_callVi (As := [.int (nI p), .int (-9)]) (rest := []) (ci := 9) (k0 := 0) Z hP hD hS hl.1 (zc_X9_tenMean l D cI cZ M th mtx len pl rt fr pr mod_ n mne mro m rrt rfr rpr mrod rn9 mrne mrro rm9 mrp mpg mbk ac mke mik cr mrw mrd sd mtr mwo mnx jr od g f p (-9) (by assumption) (by assumption)) zm844 zm845 zm23 zm39 zm846 ⟨rfl, zd_X9_tenMean⟩ ⟨Nat.le_of_ble_eq_true rfl, Nat.le_of_ble_eq_true rfl⟩ ⟨Nat.zero_le _, Nat.zero_le _⟩ [0, 1, 2] rfl (by decide) rfl rfl rfl (fun _ => rfl) rfl (Nat.le_of_ble_eq_true rfl) rfl dX9_counselOf_4 (fun r_1 u H locs h_2 hP hD hS => ?_)
  have hP : va_P D vwCl [(M, .inr (9, [.int th, .ref mtx, .int (nI len), .int (nI pl), .int rt, .int fr, .int pr, .ref mod_, .int (nI n), .ref mne, .ref mro, .int (nI m), .int rrt, .int rfr, .int rpr, .ref mrod, .int (nI rn9), .ref mrne, .ref mrro, .int (nI rm9), .ref mrp, .ref mpg, .ref mbk, .int (nI ac), .ref mke, .ref mik, .int (nI cr), .ref mrw, .ref mrd, .long sd, .ref mtr, .ref mwo, .ref mnx, .int jr])), (mod_, .inl (cI, 4, .inl od)), (mpg, .inl (cI, 36, .inl g))] H := hP
  have hD : va_D A [(M, .inr (9, [.int th, .ref mtx, .int (nI len), .int (nI pl), .int rt, .int fr, .int pr, .ref mod_, .int (nI n), .ref mne, .ref mro, .int (nI m), .int rrt, .int rfr, .int rpr, .ref mrod, .int (nI rn9), .ref mrne, .ref mrro, .int (nI rm9), .ref mrp, .ref mpg, .ref mbk, .int (nI ac), .ref mke, .ref mik, .int (nI cr), .ref mrw, .ref mrd, .long sd, .ref mtr, .ref mwo, .ref mnx, .int jr])), (mod_, .inl (cI, 4, .inl od)), (mpg, .inl (cI, 36, .inl g))] := hD
  have h_2 : r_1 = zmtd f od rt fr p (if (-9) = -9 then f (25 + p) else (-9)) 4 := h_2
  subst h_2
  refine z_top (y := zmt f od rt fr p 4) (zmt_own) ?_
  refine lv_istore_n (lv' := [(2, .int (zmt f od rt fr p 4)), (0, .ref M), (1, .int (nI p))]) hx hb dX9_counselOf_7 rfl hl (by decide) rfl (fun ls hl => ?_)
  refine lv_bipush (v := -9) hx hb dX9_counselOf_8 (by decide) ?_
  refine lv_istore_n (lv' := [(3, .int (-9)), (2, .int (zmt f od rt fr p 4)), (0, .ref M), (1, .int (nI p))]) hx hb dX9_counselOf_10 rfl hl (by decide) rfl (fun ls hl => ?_)
  refine lv_iconst (v := nI 0) hx hb dX9_counselOf_11 (by decide) ?_
  refine lv_istore (lv' := [(4, .int (nI 0)), (3, .int (-9)), (2, .int (zmt f od rt fr p 4)), (0, .ref M), (1, .int (nI p))]) hx hb dX9_counselOf_12 hl (by decide) rfl (fun ls hl => ?_)
  have hl : lv_has ls 6 [(4, .int (nI 0)), (3, .int (-9)), (2, .int (zmt f od rt fr p 4)), (0, .ref M), (1, .int (nI p))] := lv_sub hl [0, 1, 2, 3, 4] rfl
  have e_4 : -9 = (zch f od rt fr pr p 0).1 := by rfl
  have hl : lv_has ls 6 [(4, .int (nI 0)), (3, .int ((zch f od rt fr pr p 0).1)), (2, .int (zmt f od rt fr p 4)), (0, .ref M), (1, .int (nI p))] := Eq.subst (motive := fun zz_ => lv_has ls 6 [(4, .int (nI 0)), (3, .int zz_), (2, .int (zmt f od rt fr p 4)), (0, .ref M), (1, .int (nI p))]) e_4 hl
  have e_5 : zmt f od rt fr p 4 = (zch f od rt fr pr p 0).2 := by rfl
  have hl : lv_has ls 6 [(4, .int (nI 0)), (3, .int ((zch f od rt fr pr p 0).1)), (2, .int ((zch f od rt fr pr p 0).2)), (0, .ref M), (1, .int (nI p))] := Eq.subst (motive := fun zz_ => lv_has ls 6 [(4, .int (nI 0)), (3, .int ((zch f od rt fr pr p 0).1)), (2, .int zz_), (0, .ref M), (1, .int (nI p))]) e_5 hl
  refine z_loop (fun k H locs ls => va_P D vwCl [(M, .inr (9, [.int th, .ref mtx, .int (nI len), .int (nI pl), .int rt, .int fr, .int pr, .ref mod_, .int (nI n), .ref mne, .ref mro, .int (nI m), .int rrt, .int rfr, .int rpr, .ref mrod, .int (nI rn9), .ref mrne, .ref mrro, .int (nI rm9), .ref mrp, .ref mpg, .ref mbk, .int (nI ac), .ref mke, .ref mik, .int (nI cr), .ref mrw, .ref mrd, .long sd, .ref mtr, .ref mwo, .ref mnx, .int jr])), (mod_, .inl (cI, 4, .inl od)), (mpg, .inl (cI, 36, .inl g))] H ∧ va_D A [(M, .inr (9, [.int th, .ref mtx, .int (nI len), .int (nI pl), .int rt, .int fr, .int pr, .ref mod_, .int (nI n), .ref mne, .ref mro, .int (nI m), .int rrt, .int rfr, .int rpr, .ref mrod, .int (nI rn9), .ref mrne, .ref mrro, .int (nI rm9), .ref mrp, .ref mpg, .ref mbk, .int (nI ac), .ref mke, .ref mik, .int (nI cr), .ref mrw, .ref mrd, .long sd, .ref mtr, .ref mwo, .ref mnx, .int jr])), (mod_, .inl (cI, 4, .inl od)), (mpg, .inl (cI, 36, .inl g))] ∧ va_S A sS.heap H locs ∧ lv_has ls 6 [(4, .int (nI k)), (3, .int ((zch f od rt fr pr p k).1)), (2, .int ((zch f od rt fr pr p k).2)), (0, .ref M), (1, .int (nI p))]) (4) (lo := 0) (by omega) ⟨hP, hD, hS, hl⟩ (fun k hi_k ih_3 H locs ls hI => ?_)
  obtain ⟨hP, hD, hS, hl⟩ := hI
  have hP : va_P D vwCl [(M, .inr (9, [.int th, .ref mtx, .int (nI len), .int (nI pl), .int rt, .int fr, .int pr, .ref mod_, .int (nI n), .ref mne, .ref mro, .int (nI m), .int rrt, .int rfr, .int rpr, .ref mrod, .int (nI rn9), .ref mrne, .ref mrro, .int (nI rm9), .ref mrp, .ref mpg, .ref mbk, .int (nI ac), .ref mke, .ref mik, .int (nI cr), .ref mrw, .ref mrd, .long sd, .ref mtr, .ref mwo, .ref mnx, .int jr])), (mod_, .inl (cI, 4, .inl od)), (mpg, .inl (cI, 36, .inl g))] H := hP
  have hD : va_D A [(M, .inr (9, [.int th, .ref mtx, .int (nI len), .int (nI pl), .int rt, .int fr, .int pr, .ref mod_, .int (nI n), .ref mne, .ref mro, .int (nI m), .int rrt, .int rfr, .int rpr, .ref mrod, .int (nI rn9), .ref mrne, .ref mrro, .int (nI rm9), .ref mrp, .ref mpg, .ref mbk, .int (nI ac), .ref mke, .ref mik, .int (nI cr), .ref mrw, .ref mrd, .long sd, .ref mtr, .ref mwo, .ref mnx, .int jr])), (mod_, .inl (cI, 4, .inl od)), (mpg, .inl (cI, 36, .inl g))] := hD
  have hl : lv_has ls 6 [(4, .int (nI k)), (3, .int ((zch f od rt fr pr p k).1)), (2, .int ((zch f od rt fr pr p k).2)), (0, .ref M), (1, .int (nI p))] := hl
  refine lv_iload hx hb dX9_counselOf_14 (lv_at hl 0 rfl) ?_
  refine lv_iconst (v := nI 4) hx hb dX9_counselOf_16 (by decide) ?_
  refine lv_icmp_ge (tgt := 69) hx hb dX9_counselOf_17 (by decide) (fun c_6 => ?_) (fun c_6 => ?_)
  · have c_6 := zle (i := 4) (j := k) (by decide) (by omega) c_6
    have hE_ : 4 = k := by omega
    subst hE_
    refine lv_iload_n hx hb dX9_counselOf_69 rfl (lv_at hl 1 rfl) ?_
    exact z_iret Z () rfl hP hS dX9_counselOf_70
  · have c_6 := znle (i := 4) (j := k) (by decide) (by omega) c_6
    refine lv_bipush (v := nI 10) hx hb dX9_counselOf_20 (by decide) ?_
    refine lv_aload_n hx hb dX9_counselOf_22 rfl (lv_at hl 3 rfl) ?_
    refine z_get (ci := 9) (v := .int pr) Z zin9 hP 0 rfl rfl 6 (by decide) zm683 rfl rfl dX9_counselOf_23 ?_
    refine lv_imul hx hb dX9_counselOf_26 ?_
    refine z_top (y := 10 * pr) rfl ?_
    refine lv_aload_n hx hb dX9_counselOf_27 rfl (lv_at hl 3 rfl) ?_
    refine lv_iload_n hx hb dX9_counselOf_28 rfl (lv_at hl 4 rfl) ?_
    refine lv_iload hx hb dX9_counselOf_29 (lv_at hl 0 rfl) ?_
    refine z_callVi (As := [.int (nI p), .int (nI k)]) (rest := [.int (10 * pr)]) (ci := 9) (k0 := 0) Z hP hD hS hl.1 (zc_X9_tenMean l D cI cZ M th mtx len pl rt fr pr mod_ n mne mro m rrt rfr rpr mrod rn9 mrne mrro rm9 mrp mpg mbk ac mke mik cr mrw mrd sd mtr mwo mnx jr od g f p (nI k) (by assumption) (by assumption)) zm844 zm845 zm23 zm39 zm846 ⟨rfl, zd_X9_tenMean⟩ ⟨Nat.le_of_ble_eq_true rfl, Nat.le_of_ble_eq_true rfl⟩ ⟨Nat.zero_le _, Nat.zero_le _⟩ [0, 1, 2] rfl (by decide) rfl rfl rfl (fun _ => rfl) rfl (Nat.le_of_ble_eq_true rfl) rfl dX9_counselOf_31 (fun r_7 u H locs h_8 hP hD hS => ?_)
    have hP : va_P D vwCl [(M, .inr (9, [.int th, .ref mtx, .int (nI len), .int (nI pl), .int rt, .int fr, .int pr, .ref mod_, .int (nI n), .ref mne, .ref mro, .int (nI m), .int rrt, .int rfr, .int rpr, .ref mrod, .int (nI rn9), .ref mrne, .ref mrro, .int (nI rm9), .ref mrp, .ref mpg, .ref mbk, .int (nI ac), .ref mke, .ref mik, .int (nI cr), .ref mrw, .ref mrd, .long sd, .ref mtr, .ref mwo, .ref mnx, .int jr])), (mod_, .inl (cI, 4, .inl od)), (mpg, .inl (cI, 36, .inl g))] H := hP
    have hD : va_D A [(M, .inr (9, [.int th, .ref mtx, .int (nI len), .int (nI pl), .int rt, .int fr, .int pr, .ref mod_, .int (nI n), .ref mne, .ref mro, .int (nI m), .int rrt, .int rfr, .int rpr, .ref mrod, .int (nI rn9), .ref mrne, .ref mrro, .int (nI rm9), .ref mrp, .ref mpg, .ref mbk, .int (nI ac), .ref mke, .ref mik, .int (nI cr), .ref mrw, .ref mrd, .long sd, .ref mtr, .ref mwo, .ref mnx, .int jr])), (mod_, .inl (cI, 4, .inl od)), (mpg, .inl (cI, 36, .inl g))] := hD
    have h_8 : r_7 = zmtd f od rt fr p (if (nI k) = -9 then f (25 + p) else (nI k)) 4 := h_8
    subst h_8
    refine z_top (y := zmt (zchg f p (k + 1)) od rt fr p 4) (zmt_k hp (by omega)) ?_
    refine lv_iadd hx hb dX9_counselOf_34 ?_
    refine z_top (y := (10 * pr) + (zmt (zchg f p (k + 1)) od rt fr p 4)) rfl ?_
    refine lv_istore (lv' := [(5, .int ((10 * pr) + (zmt (zchg f p (k + 1)) od rt fr p 4))), (4, .int (nI k)), (3, .int ((zch f od rt fr pr p k).1)), (2, .int ((zch f od rt fr pr p k).2)), (0, .ref M), (1, .int (nI p))]) hx hb dX9_counselOf_35 hl (by decide) rfl (fun ls hl => ?_)
    refine lv_iload hx hb dX9_counselOf_37 (lv_at hl 0 rfl) ?_
    refine lv_iload_n hx hb dX9_counselOf_39 rfl (lv_at hl 3 rfl) ?_
    refine lv_icmp_ge (tgt := 48) hx hb dX9_counselOf_40 (by decide) (fun c_9 => ?_) (fun c_9 => ?_)
    · have c_9 : ((zch f od rt fr pr p k).2) ≤ ((10 * pr) + (zmt (zchg f p (k + 1)) od rt fr p 4)) := c_9
      refine lv_iload_n hx hb dX9_counselOf_48 rfl (lv_at hl 2 rfl) ?_
      refine lv_istore_n (lv' := [(3, .int ((zch f od rt fr pr p k).1)), (5, .int ((10 * pr) + (zmt (zchg f p (k + 1)) od rt fr p 4))), (4, .int (nI k)), (2, .int ((zch f od rt fr pr p k).2)), (0, .ref M), (1, .int (nI p))]) hx hb dX9_counselOf_49 rfl hl (by decide) rfl (fun ls hl => ?_)
      refine lv_iload hx hb dX9_counselOf_50 (lv_at hl 1 rfl) ?_
      refine lv_iload_n hx hb dX9_counselOf_52 rfl (lv_at hl 3 rfl) ?_
      refine lv_icmp_ge (tgt := 61) hx hb dX9_counselOf_53 (by decide) (fun c_10 => ?_) (fun c_10 => ?_)
      · have c_10 : ((zch f od rt fr pr p k).2) ≤ ((10 * pr) + (zmt (zchg f p (k + 1)) od rt fr p 4)) := c_10
        refine lv_iload_n hx hb dX9_counselOf_61 rfl (lv_at hl 3 rfl) ?_
        refine lv_istore_n (lv' := [(2, .int ((zch f od rt fr pr p k).2)), (3, .int ((zch f od rt fr pr p k).1)), (5, .int ((10 * pr) + (zmt (zchg f p (k + 1)) od rt fr p 4))), (4, .int (nI k)), (0, .ref M), (1, .int (nI p))]) hx hb dX9_counselOf_62 rfl hl (by decide) rfl (fun ls hl => ?_)
        refine lv_iinc (v := nI (k + 1)) (lv' := [(4, .int (nI (k + 1))), (2, .int ((zch f od rt fr pr p k).2)), (3, .int ((zch f od rt fr pr p k).1)), (5, .int ((10 * pr) + (zmt (zchg f p (k + 1)) od rt fr p 4))), (0, .ref M), (1, .int (nI p))]) hx hb dX9_counselOf_63 hl (k := 3) rfl (z_inc _ 1) (by decide) rfl (fun ls hl => ?_)
        refine lv_goto (tgt := 14) hx hb dX9_counselOf_66 (by decide) ?_
        have hl : lv_has ls 6 [(4, .int (nI (k + 1))), (3, .int ((zch f od rt fr pr p k).1)), (2, .int ((zch f od rt fr pr p k).2)), (0, .ref M), (1, .int (nI p))] := lv_sub hl [0, 2, 1, 4, 5] rfl
        have e_11 : (zch f od rt fr pr p k).1 = (zch f od rt fr pr p (k + 1)).1 := by first | (rw [zch_s, if_pos (by assumption)]; done) | (rw [zch_s, if_neg (by assumption)]; done) | rfl
        have hl : lv_has ls 6 [(4, .int (nI (k + 1))), (3, .int ((zch f od rt fr pr p (k + 1)).1)), (2, .int ((zch f od rt fr pr p k).2)), (0, .ref M), (1, .int (nI p))] := Eq.subst (motive := fun zz_ => lv_has ls 6 [(4, .int (nI (k + 1))), (3, .int zz_), (2, .int ((zch f od rt fr pr p k).2)), (0, .ref M), (1, .int (nI p))]) e_11 hl
        have e_12 : (zch f od rt fr pr p k).2 = (zch f od rt fr pr p (k + 1)).2 := by first | (rw [zch_s, if_pos (by assumption)]; done) | (rw [zch_s, if_neg (by assumption)]; done) | rfl
        have hl : lv_has ls 6 [(4, .int (nI (k + 1))), (3, .int ((zch f od rt fr pr p (k + 1)).1)), (2, .int ((zch f od rt fr pr p (k + 1)).2)), (0, .ref M), (1, .int (nI p))] := Eq.subst (motive := fun zz_ => lv_has ls 6 [(4, .int (nI (k + 1))), (3, .int ((zch f od rt fr pr p (k + 1)).1)), (2, .int zz_), (0, .ref M), (1, .int (nI p))]) e_12 hl
        exact ih_3 _ _ _ (by omega) ⟨hP, hD, hS, hl⟩
      · have c_10 : ¬ (((zch f od rt fr pr p k).2) ≤ ((10 * pr) + (zmt (zchg f p (k + 1)) od rt fr p 4))) := c_10
        refine lv_iload hx hb dX9_counselOf_56 (lv_at hl 1 rfl) ?_
        refine lv_goto (tgt := 62) hx hb dX9_counselOf_58 (by decide) ?_
        refine lv_istore_n (lv' := [(2, .int ((10 * pr) + (zmt (zchg f p (k + 1)) od rt fr p 4))), (3, .int ((zch f od rt fr pr p k).1)), (5, .int ((10 * pr) + (zmt (zchg f p (k + 1)) od rt fr p 4))), (4, .int (nI k)), (0, .ref M), (1, .int (nI p))]) hx hb dX9_counselOf_62 rfl hl (by decide) rfl (fun ls hl => ?_)
        refine lv_iinc (v := nI (k + 1)) (lv' := [(4, .int (nI (k + 1))), (2, .int ((10 * pr) + (zmt (zchg f p (k + 1)) od rt fr p 4))), (3, .int ((zch f od rt fr pr p k).1)), (5, .int ((10 * pr) + (zmt (zchg f p (k + 1)) od rt fr p 4))), (0, .ref M), (1, .int (nI p))]) hx hb dX9_counselOf_63 hl (k := 3) rfl (z_inc _ 1) (by decide) rfl (fun ls hl => ?_)
        refine lv_goto (tgt := 14) hx hb dX9_counselOf_66 (by decide) ?_
        have hl : lv_has ls 6 [(4, .int (nI (k + 1))), (3, .int ((zch f od rt fr pr p k).1)), (2, .int ((10 * pr) + (zmt (zchg f p (k + 1)) od rt fr p 4))), (0, .ref M), (1, .int (nI p))] := lv_sub hl [0, 2, 1, 4, 5] rfl
        have e_13 : (zch f od rt fr pr p k).1 = (zch f od rt fr pr p (k + 1)).1 := by first | (rw [zch_s, if_pos (by assumption)]; done) | (rw [zch_s, if_neg (by assumption)]; done) | rfl
        have hl : lv_has ls 6 [(4, .int (nI (k + 1))), (3, .int ((zch f od rt fr pr p (k + 1)).1)), (2, .int ((10 * pr) + (zmt (zchg f p (k + 1)) od rt fr p 4))), (0, .ref M), (1, .int (nI p))] := Eq.subst (motive := fun zz_ => lv_has ls 6 [(4, .int (nI (k + 1))), (3, .int zz_), (2, .int ((10 * pr) + (zmt (zchg f p (k + 1)) od rt fr p 4))), (0, .ref M), (1, .int (nI p))]) e_13 hl
        have e_14 : (10 * pr) + (zmt (zchg f p (k + 1)) od rt fr p 4) = (zch f od rt fr pr p (k + 1)).2 := by first | (rw [zch_s, if_pos (by assumption)]; done) | (rw [zch_s, if_neg (by assumption)]; done) | rfl
        have hl : lv_has ls 6 [(4, .int (nI (k + 1))), (3, .int ((zch f od rt fr pr p (k + 1)).1)), (2, .int ((zch f od rt fr pr p (k + 1)).2)), (0, .ref M), (1, .int (nI p))] := Eq.subst (motive := fun zz_ => lv_has ls 6 [(4, .int (nI (k + 1))), (3, .int ((zch f od rt fr pr p (k + 1)).1)), (2, .int zz_), (0, .ref M), (1, .int (nI p))]) e_14 hl
        exact ih_3 _ _ _ (by omega) ⟨hP, hD, hS, hl⟩
    · have c_9 : ¬ (((zch f od rt fr pr p k).2) ≤ ((10 * pr) + (zmt (zchg f p (k + 1)) od rt fr p 4))) := c_9
      refine lv_iload hx hb dX9_counselOf_43 (lv_at hl 1 rfl) ?_
      refine lv_goto (tgt := 49) hx hb dX9_counselOf_45 (by decide) ?_
      refine lv_istore_n (lv' := [(3, .int (nI k)), (5, .int ((10 * pr) + (zmt (zchg f p (k + 1)) od rt fr p 4))), (4, .int (nI k)), (2, .int ((zch f od rt fr pr p k).2)), (0, .ref M), (1, .int (nI p))]) hx hb dX9_counselOf_49 rfl hl (by decide) rfl (fun ls hl => ?_)
      refine lv_iload hx hb dX9_counselOf_50 (lv_at hl 1 rfl) ?_
      refine lv_iload_n hx hb dX9_counselOf_52 rfl (lv_at hl 3 rfl) ?_
      refine lv_icmp_ge (tgt := 61) hx hb dX9_counselOf_53 (by decide) (fun c_15 => ?_) (fun c_15 => ?_)
      · have c_15 : ((zch f od rt fr pr p k).2) ≤ ((10 * pr) + (zmt (zchg f p (k + 1)) od rt fr p 4)) := c_15
        refine lv_iload_n hx hb dX9_counselOf_61 rfl (lv_at hl 3 rfl) ?_
        refine lv_istore_n (lv' := [(2, .int ((zch f od rt fr pr p k).2)), (3, .int (nI k)), (5, .int ((10 * pr) + (zmt (zchg f p (k + 1)) od rt fr p 4))), (4, .int (nI k)), (0, .ref M), (1, .int (nI p))]) hx hb dX9_counselOf_62 rfl hl (by decide) rfl (fun ls hl => ?_)
        refine lv_iinc (v := nI (k + 1)) (lv' := [(4, .int (nI (k + 1))), (2, .int ((zch f od rt fr pr p k).2)), (3, .int (nI k)), (5, .int ((10 * pr) + (zmt (zchg f p (k + 1)) od rt fr p 4))), (0, .ref M), (1, .int (nI p))]) hx hb dX9_counselOf_63 hl (k := 3) rfl (z_inc _ 1) (by decide) rfl (fun ls hl => ?_)
        refine lv_goto (tgt := 14) hx hb dX9_counselOf_66 (by decide) ?_
        have hl : lv_has ls 6 [(4, .int (nI (k + 1))), (3, .int (nI k)), (2, .int ((zch f od rt fr pr p k).2)), (0, .ref M), (1, .int (nI p))] := lv_sub hl [0, 2, 1, 4, 5] rfl
        have e_16 : nI k = (zch f od rt fr pr p (k + 1)).1 := by first | (rw [zch_s, if_pos (by assumption)]; done) | (rw [zch_s, if_neg (by assumption)]; done) | rfl
        have hl : lv_has ls 6 [(4, .int (nI (k + 1))), (3, .int ((zch f od rt fr pr p (k + 1)).1)), (2, .int ((zch f od rt fr pr p k).2)), (0, .ref M), (1, .int (nI p))] := Eq.subst (motive := fun zz_ => lv_has ls 6 [(4, .int (nI (k + 1))), (3, .int zz_), (2, .int ((zch f od rt fr pr p k).2)), (0, .ref M), (1, .int (nI p))]) e_16 hl
        have e_17 : (zch f od rt fr pr p k).2 = (zch f od rt fr pr p (k + 1)).2 := by first | (rw [zch_s, if_pos (by assumption)]; done) | (rw [zch_s, if_neg (by assumption)]; done) | rfl
        have hl : lv_has ls 6 [(4, .int (nI (k + 1))), (3, .int ((zch f od rt fr pr p (k + 1)).1)), (2, .int ((zch f od rt fr pr p (k + 1)).2)), (0, .ref M), (1, .int (nI p))] := Eq.subst (motive := fun zz_ => lv_has ls 6 [(4, .int (nI (k + 1))), (3, .int ((zch f od rt fr pr p (k + 1)).1)), (2, .int zz_), (0, .ref M), (1, .int (nI p))]) e_17 hl
        exact ih_3 _ _ _ (by omega) ⟨hP, hD, hS, hl⟩
      · have c_15 : ¬ (((zch f od rt fr pr p k).2) ≤ ((10 * pr) + (zmt (zchg f p (k + 1)) od rt fr p 4))) := c_15
        refine lv_iload hx hb dX9_counselOf_56 (lv_at hl 1 rfl) ?_
        refine lv_goto (tgt := 62) hx hb dX9_counselOf_58 (by decide) ?_
        refine lv_istore_n (lv' := [(2, .int ((10 * pr) + (zmt (zchg f p (k + 1)) od rt fr p 4))), (3, .int (nI k)), (5, .int ((10 * pr) + (zmt (zchg f p (k + 1)) od rt fr p 4))), (4, .int (nI k)), (0, .ref M), (1, .int (nI p))]) hx hb dX9_counselOf_62 rfl hl (by decide) rfl (fun ls hl => ?_)
        refine lv_iinc (v := nI (k + 1)) (lv' := [(4, .int (nI (k + 1))), (2, .int ((10 * pr) + (zmt (zchg f p (k + 1)) od rt fr p 4))), (3, .int (nI k)), (5, .int ((10 * pr) + (zmt (zchg f p (k + 1)) od rt fr p 4))), (0, .ref M), (1, .int (nI p))]) hx hb dX9_counselOf_63 hl (k := 3) rfl (z_inc _ 1) (by decide) rfl (fun ls hl => ?_)
        refine lv_goto (tgt := 14) hx hb dX9_counselOf_66 (by decide) ?_
        have hl : lv_has ls 6 [(4, .int (nI (k + 1))), (3, .int (nI k)), (2, .int ((10 * pr) + (zmt (zchg f p (k + 1)) od rt fr p 4))), (0, .ref M), (1, .int (nI p))] := lv_sub hl [0, 2, 1, 4, 5] rfl
        have e_18 : nI k = (zch f od rt fr pr p (k + 1)).1 := by first | (rw [zch_s, if_pos (by assumption)]; done) | (rw [zch_s, if_neg (by assumption)]; done) | rfl
        have hl : lv_has ls 6 [(4, .int (nI (k + 1))), (3, .int ((zch f od rt fr pr p (k + 1)).1)), (2, .int ((10 * pr) + (zmt (zchg f p (k + 1)) od rt fr p 4))), (0, .ref M), (1, .int (nI p))] := Eq.subst (motive := fun zz_ => lv_has ls 6 [(4, .int (nI (k + 1))), (3, .int zz_), (2, .int ((10 * pr) + (zmt (zchg f p (k + 1)) od rt fr p 4))), (0, .ref M), (1, .int (nI p))]) e_18 hl
        have e_19 : (10 * pr) + (zmt (zchg f p (k + 1)) od rt fr p 4) = (zch f od rt fr pr p (k + 1)).2 := by first | (rw [zch_s, if_pos (by assumption)]; done) | (rw [zch_s, if_neg (by assumption)]; done) | rfl
        have hl : lv_has ls 6 [(4, .int (nI (k + 1))), (3, .int ((zch f od rt fr pr p (k + 1)).1)), (2, .int ((zch f od rt fr pr p (k + 1)).2)), (0, .ref M), (1, .int (nI p))] := Eq.subst (motive := fun zz_ => lv_has ls 6 [(4, .int (nI (k + 1))), (3, .int ((zch f od rt fr pr p (k + 1)).1)), (2, .int zz_), (0, .ref M), (1, .int (nI p))]) e_19 hl
        exact ih_3 _ _ _ (by omega) ⟨hP, hD, hS, hl⟩

theorem dX9_counsel_0 : decode cX9_counsel 0 = .ok (.aload_n 0, 1) := by decide +kernel
theorem dX9_counsel_1 : decode cX9_counsel 1 = .ok (.iconst 0, 1) := by decide +kernel
theorem dX9_counsel_2 : decode cX9_counsel 2 = .ok (.putfield 62, 3) := by decide +kernel
theorem dX9_counsel_5 : decode cX9_counsel 5 = .ok (.aload_n 0, 1) := by decide +kernel
theorem dX9_counsel_6 : decode cX9_counsel 6 = .ok (.iload_n 1, 1) := by decide +kernel
theorem dX9_counsel_7 : decode cX9_counsel 7 = .ok (.invokevirtual 147, 3) := by decide +kernel
theorem dX9_counsel_10 : decode cX9_counsel 10 = .ok (.ifCond .eq 7, 3) := by decide +kernel
theorem dX9_counsel_13 : decode cX9_counsel 13 = .ok (.iconst (-1), 1) := by decide +kernel
theorem dX9_counsel_14 : decode cX9_counsel 14 = .ok (.goto 29, 3) := by decide +kernel
theorem dX9_counsel_17 : decode cX9_counsel 17 = .ok (.aload_n 0, 1) := by decide +kernel
theorem dX9_counsel_18 : decode cX9_counsel 18 = .ok (.getfield 34, 3) := by decide +kernel
theorem dX9_counsel_21 : decode cX9_counsel 21 = .ok (.bipush 7, 2) := by decide +kernel
theorem dX9_counsel_23 : decode cX9_counsel 23 = .ok (.iload_n 1, 1) := by decide +kernel
theorem dX9_counsel_24 : decode cX9_counsel 24 = .ok (.imul, 1) := by decide +kernel
theorem dX9_counsel_25 : decode cX9_counsel 25 = .ok (.iconst 5, 1) := by decide +kernel
theorem dX9_counsel_26 : decode cX9_counsel 26 = .ok (.iadd, 1) := by decide +kernel
theorem dX9_counsel_27 : decode cX9_counsel 27 = .ok (.iaload, 1) := by decide +kernel
theorem dX9_counsel_28 : decode cX9_counsel 28 = .ok (.bipush (-9), 2) := by decide +kernel
theorem dX9_counsel_30 : decode cX9_counsel 30 = .ok (.if_icmp .eq 8, 3) := by decide +kernel
theorem dX9_counsel_33 : decode cX9_counsel 33 = .ok (.bipush (-3), 2) := by decide +kernel
theorem dX9_counsel_35 : decode cX9_counsel 35 = .ok (.goto 8, 3) := by decide +kernel
theorem dX9_counsel_38 : decode cX9_counsel 38 = .ok (.aload_n 0, 1) := by decide +kernel
theorem dX9_counsel_39 : decode cX9_counsel 39 = .ok (.iload_n 1, 1) := by decide +kernel
theorem dX9_counsel_40 : decode cX9_counsel 40 = .ok (.invokevirtual 184, 3) := by decide +kernel
theorem dX9_counsel_43 : decode cX9_counsel 43 = .ok (.ireturn, 1) := by decide +kernel
theorem zd_X9_counsel : yX9_counsel.cls ≠ "java/lang/invoke/MethodHandle" ∧ yX9_counsel.cls ≠ "java/lang/invoke/VarHandle" ∧ (parseMethodDescriptor yX9_counsel.desc).map (fun d => d.parameters.length) = some 1 := by decide +kernel
set_option maxHeartbeats 4000000 in
set_option maxRecDepth 100000 in
theorem zc_X9_counsel (l : Launch) (D : va_G) (cI cZ : ClassId) (M : Nat) (th : Int32) (mtx : Nat) (len : Nat) (pl : Nat) (rt : Int32) (fr : Int32) (pr : Int32) (mod_ : Nat) (n : Nat) (mne : Nat) (mro : Nat) (m : Nat) (rrt : Int32) (rfr : Int32) (rpr : Int32) (mrod : Nat) (rn9 : Nat) (mrne : Nat) (mrro : Nat) (rm9 : Nat) (mrp : Nat) (mpg : Nat) (mbk : Nat) (ac : Nat) (mke : Nat) (mik : Nat) (cr : Nat) (mrw : Nat) (mrd : Nat) (sd : Int64) (mtr : Nat) (mwo : Nat) (mnx : Nat) (jr : Int32) (od : Nat → Int32) (g : Nat → Int32) (f : Nat → Int32) (x1 : Int32) (hn : n ≤ 5) (hpg : zpr n f g) : zI l yX9_counsel cX9_counsel 2 .int 3 75 D cI cZ [.ref M, .int x1] [(M, .inr (9, [.int th, .ref mtx, .int (nI len), .int (nI pl), .int rt, .int fr, .int pr, .ref mod_, .int (nI n), .ref mne, .ref mro, .int (nI m), .int rrt, .int rfr, .int rpr, .ref mrod, .int (nI rn9), .ref mrne, .ref mrro, .int (nI rm9), .ref mrp, .ref mpg, .ref mbk, .int (nI ac), .ref mke, .ref mik, .int (nI cr), .ref mrw, .ref mrd, .long sd, .ref mtr, .ref mwo, .ref mnx, .int jr])), (mod_, .inl (cI, 4, .inl od)), (mpg, .inl (cI, 36, .inl g))] (fun (r : Int32) (u : Unit) => r = zPa n x1 (fun p => if f (25 + p) = -9 then (zchF f od rt fr pr p).1 else -3) (-1)) (fun (u : Unit) => [(M, .inr (9, [.int (nI 0), .ref mtx, .int (nI len), .int (nI pl), .int rt, .int fr, .int pr, .ref mod_, .int (nI n), .ref mne, .ref mro, .int (nI m), .int rrt, .int rfr, .int rpr, .ref mrod, .int (nI rn9), .ref mrne, .ref mrro, .int (nI rm9), .ref mrp, .ref mpg, .ref mbk, .int (nI ac), .ref mke, .ref mik, .int (nI cr), .ref mrw, .ref mrd, .long sd, .ref mtr, .ref mwo, .ref mnx, .int jr])), (mod_, .inl (cI, 4, .inl od)), (mpg, .inl (cI, 36, .inl g))]) := by
  refine zI_of (by decide) (Nat.le_of_ble_eq_true rfl) ?_
  intro pP eE sS mM aA bB mT cC A ls Z hP hD hS hl
  have hx := Z.1
  have hb := Z.2.1
  have hown := Z.2.2.2.2.2.1
  have hts := Z.2.2.2.2.1
  have Z : zAt pP sS mM aA mT cC D cI cZ A "SurpriseTaxModel" cX9_counsel 2 (some .int) := Z
  have hl : lv_has ls 2 [(0, .ref M), (1, .int x1)] := hl
  obtain ⟨H, hH⟩ : ∃ H, H = sS.heap := ⟨_, rfl⟩
  have hP : va_P D vwCl [(M, .inr (9, [.int th, .ref mtx, .int (nI len), .int (nI pl), .int rt, .int fr, .int pr, .ref mod_, .int (nI n), .ref mne, .ref mro, .int (nI m), .int rrt, .int rfr, .int rpr, .ref mrod, .int (nI rn9), .ref mrne, .ref mrro, .int (nI rm9), .ref mrp, .ref mpg, .ref mbk, .int (nI ac), .ref mke, .ref mik, .int (nI cr), .ref mrw, .ref mrd, .long sd, .ref mtr, .ref mwo, .ref mnx, .int jr])), (mod_, .inl (cI, 4, .inl od)), (mpg, .inl (cI, 36, .inl g))] H := by rw [hH]; exact hP
  have hS : va_S A sS.heap H [] := by rw [hH]; exact hS
  rw [← hH]
  clear hH
  obtain ⟨locs, hlo⟩ : ∃ q : List Loc, q = [] := ⟨_, rfl⟩
  rw [← hlo] at hS ⊢
  clear hlo
  refine lv_aload_n hx hb dX9_counsel_0 rfl (lv_at hl 0 rfl) ?_
  refine lv_iconst (v := nI 0) hx hb dX9_counsel_1 (by decide) ?_
  refine z_put (ci := 9) (v := .int (nI 0)) Z zin9 tyX9 tyX9_ok nmX9 hP hD hS 0 rfl rfl 0 (by decide) zm677 rfl rfl rfl rfl (Nat.le_of_ble_eq_true rfl) dX9_counsel_2 (fun H locs hP hD hS => ?_)
  have hP : va_P D vwCl [(M, .inr (9, [.int (nI 0), .ref mtx, .int (nI len), .int (nI pl), .int rt, .int fr, .int pr, .ref mod_, .int (nI n), .ref mne, .ref mro, .int (nI m), .int rrt, .int rfr, .int rpr, .ref mrod, .int (nI rn9), .ref mrne, .ref mrro, .int (nI rm9), .ref mrp, .ref mpg, .ref mbk, .int (nI ac), .ref mke, .ref mik, .int (nI cr), .ref mrw, .ref mrd, .long sd, .ref mtr, .ref mwo, .ref mnx, .int jr])), (mod_, .inl (cI, 4, .inl od)), (mpg, .inl (cI, 36, .inl g))] H := hP
  have hD : va_D A [(M, .inr (9, [.int (nI 0), .ref mtx, .int (nI len), .int (nI pl), .int rt, .int fr, .int pr, .ref mod_, .int (nI n), .ref mne, .ref mro, .int (nI m), .int rrt, .int rfr, .int rpr, .ref mrod, .int (nI rn9), .ref mrne, .ref mrro, .int (nI rm9), .ref mrp, .ref mpg, .ref mbk, .int (nI ac), .ref mke, .ref mik, .int (nI cr), .ref mrw, .ref mrd, .long sd, .ref mtr, .ref mwo, .ref mnx, .int jr])), (mod_, .inl (cI, 4, .inl od)), (mpg, .inl (cI, 36, .inl g))] := hD
  refine lv_aload_n hx hb dX9_counsel_5 rfl (lv_at hl 0 rfl) ?_
  refine lv_iload_n hx hb dX9_counsel_6 rfl (lv_at hl 1 rfl) ?_
  refine z_callVi (As := [.int x1]) (rest := []) (ci := 9) (k0 := 0) Z hP hD hS hl.1 (zc_X9_noOne l D cI cZ M (nI 0) mtx len pl rt fr pr mod_ n mne mro m rrt rfr rpr mrod rn9 mrne mrro rm9 mrp mpg mbk ac mke mik cr mrw mrd sd mtr mwo mnx jr x1 (by omega)) zm797 zm798 zm19 zm39 zm799 ⟨rfl, zd_X9_noOne⟩ ⟨Nat.le_of_ble_eq_true rfl, Nat.le_of_ble_eq_true rfl⟩ ⟨Nat.zero_le _, Nat.zero_le _⟩ [0] rfl (by decide) rfl rfl rfl (fun _ => rfl) rfl (Nat.le_of_ble_eq_true rfl) rfl dX9_counsel_7 (fun r_1 u H locs h_2 hP hD hS => ?_)
  have hP : va_P D vwCl [(M, .inr (9, [.int (nI 0), .ref mtx, .int (nI len), .int (nI pl), .int rt, .int fr, .int pr, .ref mod_, .int (nI n), .ref mne, .ref mro, .int (nI m), .int rrt, .int rfr, .int rpr, .ref mrod, .int (nI rn9), .ref mrne, .ref mrro, .int (nI rm9), .ref mrp, .ref mpg, .ref mbk, .int (nI ac), .ref mke, .ref mik, .int (nI cr), .ref mrw, .ref mrd, .long sd, .ref mtr, .ref mwo, .ref mnx, .int jr])), (mod_, .inl (cI, 4, .inl od)), (mpg, .inl (cI, 36, .inl g))] H := hP
  have hD : va_D A [(M, .inr (9, [.int (nI 0), .ref mtx, .int (nI len), .int (nI pl), .int rt, .int fr, .int pr, .ref mod_, .int (nI n), .ref mne, .ref mro, .int (nI m), .int rrt, .int rfr, .int rpr, .ref mrod, .int (nI rn9), .ref mrne, .ref mrro, .int (nI rm9), .ref mrp, .ref mpg, .ref mbk, .int (nI ac), .ref mke, .ref mik, .int (nI cr), .ref mrw, .ref mrd, .long sd, .ref mtr, .ref mwo, .ref mnx, .int jr])), (mod_, .inl (cI, 4, .inl od)), (mpg, .inl (cI, 36, .inl g))] := hD
  have h_2 : r_1 = if ¬ zhas n x1 then 1 else 0 := h_2
  subst h_2
  refine lv_if_eq (tgt := 17) hx hb dX9_counsel_10 (by decide) (fun c_3 => ?_) (fun c_3 => ?_)
  · have c_3 := zb0 c_3
    have hzz := Classical.not_not.mp c_3
    obtain ⟨p, hp, rfl⟩ := zhas_of (by omega) hzz
    refine lv_aload_n hx hb dX9_counsel_17 rfl (lv_at hl 0 rfl) ?_
    refine z_get (ci := 9) (v := .ref mpg) Z zin9 hP 0 rfl rfl 21 (by decide) zm698 rfl rfl dX9_counsel_18 ?_
    refine lv_bipush (v := nI 7) hx hb dX9_counsel_21 (by decide) ?_
    refine lv_iload_n hx hb dX9_counsel_23 rfl (lv_at hl 1 rfl) ?_
    refine lv_imul hx hb dX9_counsel_24 ?_
    refine z_top (y := nI (7 * p)) (z_mul _ _) ?_
    refine lv_iconst (v := nI 5) hx hb dX9_counsel_25 (by decide) ?_
    refine lv_iadd hx hb dX9_counsel_26 ?_
    refine z_top (y := nI (7 * p + 5)) (z_add _ _) ?_
    refine z_iald (n := 36) (f := g) (j := 7 * p + 5) Z hP 2 rfl (by omega) (by decide) dX9_counsel_27 ?_
    refine z_top (y := f (25 + p)) ((hpg.1 p hp).2.2.1) ?_
    refine lv_bipush (v := -9) hx hb dX9_counsel_28 (by decide) ?_
    refine lv_icmp_eq (tgt := 38) hx hb dX9_counsel_30 (by decide) (fun c_4 => ?_) (fun c_4 => ?_)
    · have c_4 : (f (25 + p)) = (-9) := c_4
      refine lv_aload_n hx hb dX9_counsel_38 rfl (lv_at hl 0 rfl) ?_
      refine lv_iload_n hx hb dX9_counsel_39 rfl (lv_at hl 1 rfl) ?_
      refine z_callVi (As := [.int (nI p)]) (rest := []) (ci := 9) (k0 := 0) Z hP hD hS hl.1 (zc_X9_counselOf l D cI cZ M (nI 0) mtx len pl rt fr pr mod_ n mne mro m rrt rfr rpr mrod rn9 mrne mrro rm9 mrp mpg mbk ac mke mik cr mrw mrd sd mtr mwo mnx jr od g f p (by first | omega | exact hpg.1 p hp) (by first | omega | exact hpg.1 p hp)) zm857 zm858 zm24 zm39 zm859 ⟨rfl, zd_X9_counselOf⟩ ⟨Nat.le_of_ble_eq_true rfl, Nat.le_of_ble_eq_true rfl⟩ ⟨Nat.zero_le _, Nat.zero_le _⟩ [0, 1, 2] rfl (by decide) rfl rfl rfl (fun _ => rfl) rfl (Nat.le_of_ble_eq_true rfl) rfl dX9_counsel_40 (fun r_5 u H locs h_6 hP hD hS => ?_)
      have hP : va_P D vwCl [(M, .inr (9, [.int (nI 0), .ref mtx, .int (nI len), .int (nI pl), .int rt, .int fr, .int pr, .ref mod_, .int (nI n), .ref mne, .ref mro, .int (nI m), .int rrt, .int rfr, .int rpr, .ref mrod, .int (nI rn9), .ref mrne, .ref mrro, .int (nI rm9), .ref mrp, .ref mpg, .ref mbk, .int (nI ac), .ref mke, .ref mik, .int (nI cr), .ref mrw, .ref mrd, .long sd, .ref mtr, .ref mwo, .ref mnx, .int jr])), (mod_, .inl (cI, 4, .inl od)), (mpg, .inl (cI, 36, .inl g))] H := hP
      have hD : va_D A [(M, .inr (9, [.int (nI 0), .ref mtx, .int (nI len), .int (nI pl), .int rt, .int fr, .int pr, .ref mod_, .int (nI n), .ref mne, .ref mro, .int (nI m), .int rrt, .int rfr, .int rpr, .ref mrod, .int (nI rn9), .ref mrne, .ref mrro, .int (nI rm9), .ref mrp, .ref mpg, .ref mbk, .int (nI ac), .ref mke, .ref mik, .int (nI cr), .ref mrw, .ref mrd, .long sd, .ref mtr, .ref mwo, .ref mnx, .int jr])), (mod_, .inl (cI, 4, .inl od)), (mpg, .inl (cI, 36, .inl g))] := hD
      have h_6 : r_5 = (zch f od rt fr pr p 4).1 := h_6
      subst h_6
      exact z_iret Z () (by first | rw [zPa_n (by assumption)] | (rw [zPa_y hp hn, if_pos (by assumption)]; unfold zchF; rw [if_pos (by assumption)]) | (rw [zPa_y hp hn, if_neg (by assumption)]) | rfl) hP hS dX9_counsel_43
    · have c_4 : ¬ ((f (25 + p)) = (-9)) := c_4
      refine lv_bipush (v := -3) hx hb dX9_counsel_33 (by decide) ?_
      refine lv_goto (tgt := 43) hx hb dX9_counsel_35 (by decide) ?_
      exact z_iret Z () (by first | rw [zPa_n (by assumption)] | (rw [zPa_y hp hn, if_pos (by assumption)]; unfold zchF; rw [if_pos (by assumption)]) | (rw [zPa_y hp hn, if_neg (by assumption)]) | rfl) hP hS dX9_counsel_43
  · have c_3 := zb1 c_3
    refine lv_iconst (v := -1) hx hb dX9_counsel_13 (by decide) ?_
    refine lv_goto (tgt := 43) hx hb dX9_counsel_14 (by decide) ?_
    exact z_iret Z () (by first | rw [zPa_n (by assumption)] | (rw [zPa_y hp hn, if_pos (by assumption)]; unfold zchF; rw [if_pos (by assumption)]) | (rw [zPa_y hp hn, if_neg (by assumption)]) | rfl) hP hS dX9_counsel_43

theorem dX9_courier_0 : decode cX9_courier 0 = .ok (.aload_n 0, 1) := by decide +kernel
theorem dX9_courier_1 : decode cX9_courier 1 = .ok (.iconst 0, 1) := by decide +kernel
theorem dX9_courier_2 : decode cX9_courier 2 = .ok (.putfield 62, 3) := by decide +kernel
theorem dX9_courier_5 : decode cX9_courier 5 = .ok (.aload_n 0, 1) := by decide +kernel
theorem dX9_courier_6 : decode cX9_courier 6 = .ok (.iload_n 1, 1) := by decide +kernel
theorem dX9_courier_7 : decode cX9_courier 7 = .ok (.invokevirtual 147, 3) := by decide +kernel
theorem dX9_courier_10 : decode cX9_courier 10 = .ok (.ifCond .eq 5, 3) := by decide +kernel
theorem dX9_courier_13 : decode cX9_courier 13 = .ok (.iconst (-1), 1) := by decide +kernel
theorem dX9_courier_14 : decode cX9_courier 14 = .ok (.ireturn, 1) := by decide +kernel
theorem dX9_courier_15 : decode cX9_courier 15 = .ok (.aload_n 0, 1) := by decide +kernel
theorem dX9_courier_16 : decode cX9_courier 16 = .ok (.getfield 34, 3) := by decide +kernel
theorem dX9_courier_19 : decode cX9_courier 19 = .ok (.bipush 7, 2) := by decide +kernel
theorem dX9_courier_21 : decode cX9_courier 21 = .ok (.iload_n 1, 1) := by decide +kernel
theorem dX9_courier_22 : decode cX9_courier 22 = .ok (.imul, 1) := by decide +kernel
theorem dX9_courier_23 : decode cX9_courier 23 = .ok (.iconst 5, 1) := by decide +kernel
theorem dX9_courier_24 : decode cX9_courier 24 = .ok (.iadd, 1) := by decide +kernel
theorem dX9_courier_25 : decode cX9_courier 25 = .ok (.iaload, 1) := by decide +kernel
theorem dX9_courier_26 : decode cX9_courier 26 = .ok (.bipush (-9), 2) := by decide +kernel
theorem dX9_courier_28 : decode cX9_courier 28 = .ok (.if_icmp .eq 6, 3) := by decide +kernel
theorem dX9_courier_31 : decode cX9_courier 31 = .ok (.bipush (-3), 2) := by decide +kernel
theorem dX9_courier_33 : decode cX9_courier 33 = .ok (.ireturn, 1) := by decide +kernel
theorem dX9_courier_34 : decode cX9_courier 34 = .ok (.aload_n 0, 1) := by decide +kernel
theorem dX9_courier_35 : decode cX9_courier 35 = .ok (.iload_n 1, 1) := by decide +kernel
theorem dX9_courier_36 : decode cX9_courier 36 = .ok (.invokevirtual 184, 3) := by decide +kernel
theorem dX9_courier_39 : decode cX9_courier 39 = .ok (.istore_n 2, 1) := by decide +kernel
theorem dX9_courier_40 : decode cX9_courier 40 = .ok (.iload_n 2, 1) := by decide +kernel
theorem dX9_courier_41 : decode cX9_courier 41 = .ok (.bipush (-9), 2) := by decide +kernel
theorem dX9_courier_43 : decode cX9_courier 43 = .ok (.if_icmp .ne 13, 3) := by decide +kernel
theorem dX9_courier_46 : decode cX9_courier 46 = .ok (.aload_n 0, 1) := by decide +kernel
theorem dX9_courier_47 : decode cX9_courier 47 = .ok (.iload_n 1, 1) := by decide +kernel
theorem dX9_courier_48 : decode cX9_courier 48 = .ok (.bipush (-9), 2) := by decide +kernel
theorem dX9_courier_50 : decode cX9_courier 50 = .ok (.invokevirtual 177, 3) := by decide +kernel
theorem dX9_courier_53 : decode cX9_courier 53 = .ok (.goto 17, 3) := by decide +kernel
theorem dX9_courier_56 : decode cX9_courier 56 = .ok (.bipush 10, 2) := by decide +kernel
theorem dX9_courier_58 : decode cX9_courier 58 = .ok (.aload_n 0, 1) := by decide +kernel
theorem dX9_courier_59 : decode cX9_courier 59 = .ok (.getfield 131, 3) := by decide +kernel
theorem dX9_courier_62 : decode cX9_courier 62 = .ok (.imul, 1) := by decide +kernel
theorem dX9_courier_63 : decode cX9_courier 63 = .ok (.aload_n 0, 1) := by decide +kernel
theorem dX9_courier_64 : decode cX9_courier 64 = .ok (.iload_n 1, 1) := by decide +kernel
theorem dX9_courier_65 : decode cX9_courier 65 = .ok (.iload_n 2, 1) := by decide +kernel
theorem dX9_courier_66 : decode cX9_courier 66 = .ok (.invokevirtual 177, 3) := by decide +kernel
theorem dX9_courier_69 : decode cX9_courier 69 = .ok (.iadd, 1) := by decide +kernel
theorem dX9_courier_70 : decode cX9_courier 70 = .ok (.bipush 10, 2) := by decide +kernel
theorem dX9_courier_72 : decode cX9_courier 72 = .ok (.idiv, 1) := by decide +kernel
theorem dX9_courier_73 : decode cX9_courier 73 = .ok (.ireturn, 1) := by decide +kernel
theorem zd_X9_courier : yX9_courier.cls ≠ "java/lang/invoke/MethodHandle" ∧ yX9_courier.cls ≠ "java/lang/invoke/VarHandle" ∧ (parseMethodDescriptor yX9_courier.desc).map (fun d => d.parameters.length) = some 1 := by decide +kernel
set_option maxHeartbeats 4000000 in
set_option maxRecDepth 100000 in
theorem zc_X9_courier (l : Launch) (D : va_G) (cI cZ : ClassId) (M : Nat) (th : Int32) (mtx : Nat) (len : Nat) (pl : Nat) (rt : Int32) (fr : Int32) (pr : Int32) (mod_ : Nat) (n : Nat) (mne : Nat) (mro : Nat) (m : Nat) (rrt : Int32) (rfr : Int32) (rpr : Int32) (mrod : Nat) (rn9 : Nat) (mrne : Nat) (mrro : Nat) (rm9 : Nat) (mrp : Nat) (mpg : Nat) (mbk : Nat) (ac : Nat) (mke : Nat) (mik : Nat) (cr : Nat) (mrw : Nat) (mrd : Nat) (sd : Int64) (mtr : Nat) (mwo : Nat) (mnx : Nat) (jr : Int32) (od : Nat → Int32) (g : Nat → Int32) (f : Nat → Int32) (x1 : Int32) (hn : n ≤ 5) (hpg : zpr n f g) : zI l yX9_courier cX9_courier 3 .int 3 75 D cI cZ [.ref M, .int x1] [(M, .inr (9, [.int th, .ref mtx, .int (nI len), .int (nI pl), .int rt, .int fr, .int pr, .ref mod_, .int (nI n), .ref mne, .ref mro, .int (nI m), .int rrt, .int rfr, .int rpr, .ref mrod, .int (nI rn9), .ref mrne, .ref mrro, .int (nI rm9), .ref mrp, .ref mpg, .ref mbk, .int (nI ac), .ref mke, .ref mik, .int (nI cr), .ref mrw, .ref mrd, .long sd, .ref mtr, .ref mwo, .ref mnx, .int jr])), (mod_, .inl (cI, 4, .inl od)), (mpg, .inl (cI, 36, .inl g))] (fun (r : Int32) (u : Unit) => r = zPa n x1 (fun p => if f (25 + p) = -9 then (zchF f od rt fr pr p).2 / 10 else -3) (-1)) (fun (u : Unit) => [(M, .inr (9, [.int (nI 0), .ref mtx, .int (nI len), .int (nI pl), .int rt, .int fr, .int pr, .ref mod_, .int (nI n), .ref mne, .ref mro, .int (nI m), .int rrt, .int rfr, .int rpr, .ref mrod, .int (nI rn9), .ref mrne, .ref mrro, .int (nI rm9), .ref mrp, .ref mpg, .ref mbk, .int (nI ac), .ref mke, .ref mik, .int (nI cr), .ref mrw, .ref mrd, .long sd, .ref mtr, .ref mwo, .ref mnx, .int jr])), (mod_, .inl (cI, 4, .inl od)), (mpg, .inl (cI, 36, .inl g))]) := by
  refine zI_of (by decide) (Nat.le_of_ble_eq_true rfl) ?_
  intro pP eE sS mM aA bB mT cC A ls Z hP hD hS hl
  have hx := Z.1
  have hb := Z.2.1
  have hown := Z.2.2.2.2.2.1
  have hts := Z.2.2.2.2.1
  have Z : zAt pP sS mM aA mT cC D cI cZ A "SurpriseTaxModel" cX9_courier 3 (some .int) := Z
  have hl : lv_has ls 3 [(0, .ref M), (1, .int x1)] := hl
  obtain ⟨H, hH⟩ : ∃ H, H = sS.heap := ⟨_, rfl⟩
  have hP : va_P D vwCl [(M, .inr (9, [.int th, .ref mtx, .int (nI len), .int (nI pl), .int rt, .int fr, .int pr, .ref mod_, .int (nI n), .ref mne, .ref mro, .int (nI m), .int rrt, .int rfr, .int rpr, .ref mrod, .int (nI rn9), .ref mrne, .ref mrro, .int (nI rm9), .ref mrp, .ref mpg, .ref mbk, .int (nI ac), .ref mke, .ref mik, .int (nI cr), .ref mrw, .ref mrd, .long sd, .ref mtr, .ref mwo, .ref mnx, .int jr])), (mod_, .inl (cI, 4, .inl od)), (mpg, .inl (cI, 36, .inl g))] H := by rw [hH]; exact hP
  have hS : va_S A sS.heap H [] := by rw [hH]; exact hS
  rw [← hH]
  clear hH
  obtain ⟨locs, hlo⟩ : ∃ q : List Loc, q = [] := ⟨_, rfl⟩
  rw [← hlo] at hS ⊢
  clear hlo
  refine lv_aload_n hx hb dX9_courier_0 rfl (lv_at hl 0 rfl) ?_
  refine lv_iconst (v := nI 0) hx hb dX9_courier_1 (by decide) ?_
  refine z_put (ci := 9) (v := .int (nI 0)) Z zin9 tyX9 tyX9_ok nmX9 hP hD hS 0 rfl rfl 0 (by decide) zm677 rfl rfl rfl rfl (Nat.le_of_ble_eq_true rfl) dX9_courier_2 (fun H locs hP hD hS => ?_)
  have hP : va_P D vwCl [(M, .inr (9, [.int (nI 0), .ref mtx, .int (nI len), .int (nI pl), .int rt, .int fr, .int pr, .ref mod_, .int (nI n), .ref mne, .ref mro, .int (nI m), .int rrt, .int rfr, .int rpr, .ref mrod, .int (nI rn9), .ref mrne, .ref mrro, .int (nI rm9), .ref mrp, .ref mpg, .ref mbk, .int (nI ac), .ref mke, .ref mik, .int (nI cr), .ref mrw, .ref mrd, .long sd, .ref mtr, .ref mwo, .ref mnx, .int jr])), (mod_, .inl (cI, 4, .inl od)), (mpg, .inl (cI, 36, .inl g))] H := hP
  have hD : va_D A [(M, .inr (9, [.int (nI 0), .ref mtx, .int (nI len), .int (nI pl), .int rt, .int fr, .int pr, .ref mod_, .int (nI n), .ref mne, .ref mro, .int (nI m), .int rrt, .int rfr, .int rpr, .ref mrod, .int (nI rn9), .ref mrne, .ref mrro, .int (nI rm9), .ref mrp, .ref mpg, .ref mbk, .int (nI ac), .ref mke, .ref mik, .int (nI cr), .ref mrw, .ref mrd, .long sd, .ref mtr, .ref mwo, .ref mnx, .int jr])), (mod_, .inl (cI, 4, .inl od)), (mpg, .inl (cI, 36, .inl g))] := hD
  refine lv_aload_n hx hb dX9_courier_5 rfl (lv_at hl 0 rfl) ?_
  refine lv_iload_n hx hb dX9_courier_6 rfl (lv_at hl 1 rfl) ?_
  refine z_callVi (As := [.int x1]) (rest := []) (ci := 9) (k0 := 0) Z hP hD hS hl.1 (zc_X9_noOne l D cI cZ M (nI 0) mtx len pl rt fr pr mod_ n mne mro m rrt rfr rpr mrod rn9 mrne mrro rm9 mrp mpg mbk ac mke mik cr mrw mrd sd mtr mwo mnx jr x1 (by omega)) zm797 zm798 zm19 zm39 zm799 ⟨rfl, zd_X9_noOne⟩ ⟨Nat.le_of_ble_eq_true rfl, Nat.le_of_ble_eq_true rfl⟩ ⟨Nat.zero_le _, Nat.zero_le _⟩ [0] rfl (by decide) rfl rfl rfl (fun _ => rfl) rfl (Nat.le_of_ble_eq_true rfl) rfl dX9_courier_7 (fun r_1 u H locs h_2 hP hD hS => ?_)
  have hP : va_P D vwCl [(M, .inr (9, [.int (nI 0), .ref mtx, .int (nI len), .int (nI pl), .int rt, .int fr, .int pr, .ref mod_, .int (nI n), .ref mne, .ref mro, .int (nI m), .int rrt, .int rfr, .int rpr, .ref mrod, .int (nI rn9), .ref mrne, .ref mrro, .int (nI rm9), .ref mrp, .ref mpg, .ref mbk, .int (nI ac), .ref mke, .ref mik, .int (nI cr), .ref mrw, .ref mrd, .long sd, .ref mtr, .ref mwo, .ref mnx, .int jr])), (mod_, .inl (cI, 4, .inl od)), (mpg, .inl (cI, 36, .inl g))] H := hP
  have hD : va_D A [(M, .inr (9, [.int (nI 0), .ref mtx, .int (nI len), .int (nI pl), .int rt, .int fr, .int pr, .ref mod_, .int (nI n), .ref mne, .ref mro, .int (nI m), .int rrt, .int rfr, .int rpr, .ref mrod, .int (nI rn9), .ref mrne, .ref mrro, .int (nI rm9), .ref mrp, .ref mpg, .ref mbk, .int (nI ac), .ref mke, .ref mik, .int (nI cr), .ref mrw, .ref mrd, .long sd, .ref mtr, .ref mwo, .ref mnx, .int jr])), (mod_, .inl (cI, 4, .inl od)), (mpg, .inl (cI, 36, .inl g))] := hD
  have h_2 : r_1 = if ¬ zhas n x1 then 1 else 0 := h_2
  subst h_2
  refine lv_if_eq (tgt := 15) hx hb dX9_courier_10 (by decide) (fun c_3 => ?_) (fun c_3 => ?_)
  · have c_3 := zb0 c_3
    have hzz := Classical.not_not.mp c_3
    obtain ⟨p, hp, rfl⟩ := zhas_of (by omega) hzz
    refine lv_aload_n hx hb dX9_courier_15 rfl (lv_at hl 0 rfl) ?_
    refine z_get (ci := 9) (v := .ref mpg) Z zin9 hP 0 rfl rfl 21 (by decide) zm698 rfl rfl dX9_courier_16 ?_
    refine lv_bipush (v := nI 7) hx hb dX9_courier_19 (by decide) ?_
    refine lv_iload_n hx hb dX9_courier_21 rfl (lv_at hl 1 rfl) ?_
    refine lv_imul hx hb dX9_courier_22 ?_
    refine z_top (y := nI (7 * p)) (z_mul _ _) ?_
    refine lv_iconst (v := nI 5) hx hb dX9_courier_23 (by decide) ?_
    refine lv_iadd hx hb dX9_courier_24 ?_
    refine z_top (y := nI (7 * p + 5)) (z_add _ _) ?_
    refine z_iald (n := 36) (f := g) (j := 7 * p + 5) Z hP 2 rfl (by omega) (by decide) dX9_courier_25 ?_
    refine z_top (y := f (25 + p)) ((hpg.1 p hp).2.2.1) ?_
    refine lv_bipush (v := -9) hx hb dX9_courier_26 (by decide) ?_
    refine lv_icmp_eq (tgt := 34) hx hb dX9_courier_28 (by decide) (fun c_4 => ?_) (fun c_4 => ?_)
    · have c_4 : (f (25 + p)) = (-9) := c_4
      refine lv_aload_n hx hb dX9_courier_34 rfl (lv_at hl 0 rfl) ?_
      refine lv_iload_n hx hb dX9_courier_35 rfl (lv_at hl 1 rfl) ?_
      refine z_callVi (As := [.int (nI p)]) (rest := []) (ci := 9) (k0 := 0) Z hP hD hS hl.1 (zc_X9_counselOf l D cI cZ M (nI 0) mtx len pl rt fr pr mod_ n mne mro m rrt rfr rpr mrod rn9 mrne mrro rm9 mrp mpg mbk ac mke mik cr mrw mrd sd mtr mwo mnx jr od g f p (by first | omega | exact hpg.1 p hp) (by first | omega | exact hpg.1 p hp)) zm857 zm858 zm24 zm39 zm859 ⟨rfl, zd_X9_counselOf⟩ ⟨Nat.le_of_ble_eq_true rfl, Nat.le_of_ble_eq_true rfl⟩ ⟨Nat.zero_le _, Nat.zero_le _⟩ [0, 1, 2] rfl (by decide) rfl rfl rfl (fun _ => rfl) rfl (Nat.le_of_ble_eq_true rfl) rfl dX9_courier_36 (fun r_5 u H locs h_6 hP hD hS => ?_)
      have hP : va_P D vwCl [(M, .inr (9, [.int (nI 0), .ref mtx, .int (nI len), .int (nI pl), .int rt, .int fr, .int pr, .ref mod_, .int (nI n), .ref mne, .ref mro, .int (nI m), .int rrt, .int rfr, .int rpr, .ref mrod, .int (nI rn9), .ref mrne, .ref mrro, .int (nI rm9), .ref mrp, .ref mpg, .ref mbk, .int (nI ac), .ref mke, .ref mik, .int (nI cr), .ref mrw, .ref mrd, .long sd, .ref mtr, .ref mwo, .ref mnx, .int jr])), (mod_, .inl (cI, 4, .inl od)), (mpg, .inl (cI, 36, .inl g))] H := hP
      have hD : va_D A [(M, .inr (9, [.int (nI 0), .ref mtx, .int (nI len), .int (nI pl), .int rt, .int fr, .int pr, .ref mod_, .int (nI n), .ref mne, .ref mro, .int (nI m), .int rrt, .int rfr, .int rpr, .ref mrod, .int (nI rn9), .ref mrne, .ref mrro, .int (nI rm9), .ref mrp, .ref mpg, .ref mbk, .int (nI ac), .ref mke, .ref mik, .int (nI cr), .ref mrw, .ref mrd, .long sd, .ref mtr, .ref mwo, .ref mnx, .int jr])), (mod_, .inl (cI, 4, .inl od)), (mpg, .inl (cI, 36, .inl g))] := hD
      have h_6 : r_5 = (zch f od rt fr pr p 4).1 := h_6
      subst h_6
      refine lv_istore_n (lv' := [(2, .int ((zch f od rt fr pr p 4).1)), (0, .ref M), (1, .int (nI p))]) hx hb dX9_courier_39 rfl hl (by decide) rfl (fun ls hl => ?_)
      refine lv_iload_n hx hb dX9_courier_40 rfl (lv_at hl 0 rfl) ?_
      refine lv_bipush (v := -9) hx hb dX9_courier_41 (by decide) ?_
      refine lv_icmp_ne (tgt := 56) hx hb dX9_courier_43 (by decide) (fun c_7 => ?_) (fun c_7 => ?_)
      · have c_7 : ¬ (((zch f od rt fr pr p 4).1) = (-9)) := c_7
        obtain ⟨k, hk, hcc⟩ := zch_k (c_7)
        have hE : (zch f od rt fr pr p 4).1 = nI k := hcc
        have hl : lv_has ls 3 [(2, .int (nI k)), (0, .ref M), (1, .int (nI p))] := Eq.subst (motive := fun zz_ => lv_has ls 3 [(2, .int zz_), (0, .ref M), (1, .int (nI p))]) hE hl
        refine lv_bipush (v := nI 10) hx hb dX9_courier_56 (by decide) ?_
        refine lv_aload_n hx hb dX9_courier_58 rfl (lv_at hl 1 rfl) ?_
        refine z_get (ci := 9) (v := .int pr) Z zin9 hP 0 rfl rfl 6 (by decide) zm683 rfl rfl dX9_courier_59 ?_
        refine lv_imul hx hb dX9_courier_62 ?_
        refine z_top (y := 10 * pr) rfl ?_
        refine lv_aload_n hx hb dX9_courier_63 rfl (lv_at hl 1 rfl) ?_
        refine lv_iload_n hx hb dX9_courier_64 rfl (lv_at hl 2 rfl) ?_
        refine lv_iload_n hx hb dX9_courier_65 rfl (lv_at hl 0 rfl) ?_
        refine z_callVi (As := [.int (nI p), .int (nI k)]) (rest := [.int (10 * pr)]) (ci := 9) (k0 := 0) Z hP hD hS hl.1 (zc_X9_tenMean l D cI cZ M (nI 0) mtx len pl rt fr pr mod_ n mne mro m rrt rfr rpr mrod rn9 mrne mrro rm9 mrp mpg mbk ac mke mik cr mrw mrd sd mtr mwo mnx jr od g f p (nI k) (by first | omega | exact hpg.1 p hp) (by first | omega | exact hpg.1 p hp)) zm844 zm845 zm23 zm39 zm846 ⟨rfl, zd_X9_tenMean⟩ ⟨Nat.le_of_ble_eq_true rfl, Nat.le_of_ble_eq_true rfl⟩ ⟨Nat.zero_le _, Nat.zero_le _⟩ [0, 1, 2] rfl (by decide) rfl rfl rfl (fun _ => rfl) rfl (Nat.le_of_ble_eq_true rfl) rfl dX9_courier_66 (fun r_8 u H locs h_9 hP hD hS => ?_)
        have hP : va_P D vwCl [(M, .inr (9, [.int (nI 0), .ref mtx, .int (nI len), .int (nI pl), .int rt, .int fr, .int pr, .ref mod_, .int (nI n), .ref mne, .ref mro, .int (nI m), .int rrt, .int rfr, .int rpr, .ref mrod, .int (nI rn9), .ref mrne, .ref mrro, .int (nI rm9), .ref mrp, .ref mpg, .ref mbk, .int (nI ac), .ref mke, .ref mik, .int (nI cr), .ref mrw, .ref mrd, .long sd, .ref mtr, .ref mwo, .ref mnx, .int jr])), (mod_, .inl (cI, 4, .inl od)), (mpg, .inl (cI, 36, .inl g))] H := hP
        have hD : va_D A [(M, .inr (9, [.int (nI 0), .ref mtx, .int (nI len), .int (nI pl), .int rt, .int fr, .int pr, .ref mod_, .int (nI n), .ref mne, .ref mro, .int (nI m), .int rrt, .int rfr, .int rpr, .ref mrod, .int (nI rn9), .ref mrne, .ref mrro, .int (nI rm9), .ref mrp, .ref mpg, .ref mbk, .int (nI ac), .ref mke, .ref mik, .int (nI cr), .ref mrw, .ref mrd, .long sd, .ref mtr, .ref mwo, .ref mnx, .int jr])), (mod_, .inl (cI, 4, .inl od)), (mpg, .inl (cI, 36, .inl g))] := hD
        have h_9 : r_8 = zmtd f od rt fr p (if (nI k) = -9 then f (25 + p) else (nI k)) 4 := h_9
        subst h_9
        refine z_top (y := zmt (zchg f p (k + 1)) od rt fr p 4) (zmt_k (by omega) hk) ?_
        refine lv_iadd hx hb dX9_courier_69 ?_
        refine z_top (y := (10 * pr) + (zmt (zchg f p (k + 1)) od rt fr p 4)) rfl ?_
        refine lv_bipush (v := nI 10) hx hb dX9_courier_70 (by decide) ?_
        refine lv_idiv hx hb dX9_courier_72 (by decide) ?_
        refine z_top (y := ((10 * pr) + (zmt (zchg f p (k + 1)) od rt fr p 4)) / 10) rfl ?_
        exact z_iret Z () (by first | rw [zPa_n (by assumption)] | (rw [zPa_y hp hn, if_pos (by assumption)]; unfold zchF; rw [if_pos (by assumption)]; first | (rw [zch_n (by assumption)]) | (rw [zch_y hk hcc])) | (rw [zPa_y hp hn, if_neg (by assumption)]) | rfl) hP hS dX9_courier_73
      · have c_7 : ((zch f od rt fr pr p 4).1) = (-9) := c_7
        refine lv_aload_n hx hb dX9_courier_46 rfl (lv_at hl 1 rfl) ?_
        refine lv_iload_n hx hb dX9_courier_47 rfl (lv_at hl 2 rfl) ?_
        refine lv_bipush (v := -9) hx hb dX9_courier_48 (by decide) ?_
        refine z_callVi (As := [.int (nI p), .int (-9)]) (rest := []) (ci := 9) (k0 := 0) Z hP hD hS hl.1 (zc_X9_tenMean l D cI cZ M (nI 0) mtx len pl rt fr pr mod_ n mne mro m rrt rfr rpr mrod rn9 mrne mrro rm9 mrp mpg mbk ac mke mik cr mrw mrd sd mtr mwo mnx jr od g f p (-9) (by first | omega | exact hpg.1 p hp) (by first | omega | exact hpg.1 p hp)) zm844 zm845 zm23 zm39 zm846 ⟨rfl, zd_X9_tenMean⟩ ⟨Nat.le_of_ble_eq_true rfl, Nat.le_of_ble_eq_true rfl⟩ ⟨Nat.zero_le _, Nat.zero_le _⟩ [0, 1, 2] rfl (by decide) rfl rfl rfl (fun _ => rfl) rfl (Nat.le_of_ble_eq_true rfl) rfl dX9_courier_50 (fun r_10 u H locs h_11 hP hD hS => ?_)
        have hP : va_P D vwCl [(M, .inr (9, [.int (nI 0), .ref mtx, .int (nI len), .int (nI pl), .int rt, .int fr, .int pr, .ref mod_, .int (nI n), .ref mne, .ref mro, .int (nI m), .int rrt, .int rfr, .int rpr, .ref mrod, .int (nI rn9), .ref mrne, .ref mrro, .int (nI rm9), .ref mrp, .ref mpg, .ref mbk, .int (nI ac), .ref mke, .ref mik, .int (nI cr), .ref mrw, .ref mrd, .long sd, .ref mtr, .ref mwo, .ref mnx, .int jr])), (mod_, .inl (cI, 4, .inl od)), (mpg, .inl (cI, 36, .inl g))] H := hP
        have hD : va_D A [(M, .inr (9, [.int (nI 0), .ref mtx, .int (nI len), .int (nI pl), .int rt, .int fr, .int pr, .ref mod_, .int (nI n), .ref mne, .ref mro, .int (nI m), .int rrt, .int rfr, .int rpr, .ref mrod, .int (nI rn9), .ref mrne, .ref mrro, .int (nI rm9), .ref mrp, .ref mpg, .ref mbk, .int (nI ac), .ref mke, .ref mik, .int (nI cr), .ref mrw, .ref mrd, .long sd, .ref mtr, .ref mwo, .ref mnx, .int jr])), (mod_, .inl (cI, 4, .inl od)), (mpg, .inl (cI, 36, .inl g))] := hD
        have h_11 : r_10 = zmtd f od rt fr p (if (-9) = -9 then f (25 + p) else (-9)) 4 := h_11
        subst h_11
        refine z_top (y := zmt f od rt fr p 4) (zmt_own) ?_
        refine lv_goto (tgt := 70) hx hb dX9_courier_53 (by decide) ?_
        refine lv_bipush (v := nI 10) hx hb dX9_courier_70 (by decide) ?_
        refine lv_idiv hx hb dX9_courier_72 (by decide) ?_
        refine z_top (y := (zmt f od rt fr p 4) / 10) rfl ?_
        exact z_iret Z () (by first | rw [zPa_n (by assumption)] | (rw [zPa_y hp hn, if_pos (by assumption)]; unfold zchF; rw [if_pos (by assumption)]; first | (rw [zch_n (by assumption)]) | (rw [zch_y hk hcc])) | (rw [zPa_y hp hn, if_neg (by assumption)]) | rfl) hP hS dX9_courier_73
    · have c_4 : ¬ ((f (25 + p)) = (-9)) := c_4
      refine lv_bipush (v := -3) hx hb dX9_courier_31 (by decide) ?_
      exact z_iret Z () (by first | rw [zPa_n (by assumption)] | (rw [zPa_y hp hn, if_pos (by assumption)]; unfold zchF; rw [if_pos (by assumption)]; first | (rw [zch_n (by assumption)]) | (rw [zch_y hk hcc])) | (rw [zPa_y hp hn, if_neg (by assumption)]) | rfl) hP hS dX9_courier_33
  · have c_3 := zb1 c_3
    refine lv_iconst (v := -1) hx hb dX9_courier_13 (by decide) ?_
    exact z_iret Z () (by first | rw [zPa_n (by assumption)] | (rw [zPa_y hp hn, if_pos (by assumption)]; unfold zchF; rw [if_pos (by assumption)]; first | (rw [zch_n (by assumption)]) | (rw [zch_y hk hcc])) | (rw [zPa_y hp hn, if_neg (by assumption)]) | rfl) hP hS dX9_courier_14

theorem dX9_fair_0 : decode cX9_fair 0 = .ok (.aload_n 0, 1) := by decide +kernel
theorem dX9_fair_1 : decode cX9_fair 1 = .ok (.iconst 0, 1) := by decide +kernel
theorem dX9_fair_2 : decode cX9_fair 2 = .ok (.putfield 62, 3) := by decide +kernel
theorem dX9_fair_5 : decode cX9_fair 5 = .ok (.aload_n 0, 1) := by decide +kernel
theorem dX9_fair_6 : decode cX9_fair 6 = .ok (.iload_n 1, 1) := by decide +kernel
theorem dX9_fair_7 : decode cX9_fair 7 = .ok (.invokevirtual 147, 3) := by decide +kernel
theorem dX9_fair_10 : decode cX9_fair 10 = .ok (.ifCond .eq 5, 3) := by decide +kernel
theorem dX9_fair_13 : decode cX9_fair 13 = .ok (.iconst (-1), 1) := by decide +kernel
theorem dX9_fair_14 : decode cX9_fair 14 = .ok (.ireturn, 1) := by decide +kernel
theorem dX9_fair_15 : decode cX9_fair 15 = .ok (.iload_n 2, 1) := by decide +kernel
theorem dX9_fair_16 : decode cX9_fair 16 = .ok (.invokestatic 164, 3) := by decide +kernel
theorem dX9_fair_19 : decode cX9_fair 19 = .ok (.ifCond .ne 15, 3) := by decide +kernel
theorem dX9_fair_22 : decode cX9_fair 22 = .ok (.iload_n 3, 1) := by decide +kernel
theorem dX9_fair_23 : decode cX9_fair 23 = .ok (.i2l, 1) := by decide +kernel
theorem dX9_fair_24 : decode cX9_fair 24 = .ok (.lconst 1, 1) := by decide +kernel
theorem dX9_fair_25 : decode cX9_fair 25 = .ok (.ldc2_w 224, 3) := by decide +kernel
theorem dX9_fair_28 : decode cX9_fair 28 = .ok (.invokestatic 69, 3) := by decide +kernel
theorem dX9_fair_31 : decode cX9_fair 31 = .ok (.ifCond .ne 6, 3) := by decide +kernel
theorem dX9_fair_34 : decode cX9_fair 34 = .ok (.bipush (-2), 2) := by decide +kernel
theorem dX9_fair_36 : decode cX9_fair 36 = .ok (.ireturn, 1) := by decide +kernel
theorem dX9_fair_37 : decode cX9_fair 37 = .ok (.aload_n 0, 1) := by decide +kernel
theorem dX9_fair_38 : decode cX9_fair 38 = .ok (.getfield 13, 3) := by decide +kernel
theorem dX9_fair_41 : decode cX9_fair 41 = .ok (.iload_n 2, 1) := by decide +kernel
theorem dX9_fair_42 : decode cX9_fair 42 = .ok (.iaload, 1) := by decide +kernel
theorem dX9_fair_43 : decode cX9_fair 43 = .ok (.ifCond .ne 6, 3) := by decide +kernel
theorem dX9_fair_46 : decode cX9_fair 46 = .ok (.bipush (-9), 2) := by decide +kernel
theorem dX9_fair_48 : decode cX9_fair 48 = .ok (.ireturn, 1) := by decide +kernel
theorem dX9_fair_49 : decode cX9_fair 49 = .ok (.bipush 10, 2) := by decide +kernel
theorem dX9_fair_51 : decode cX9_fair 51 = .ok (.iload_n 3, 1) := by decide +kernel
theorem dX9_fair_52 : decode cX9_fair 52 = .ok (.imul, 1) := by decide +kernel
theorem dX9_fair_53 : decode cX9_fair 53 = .ok (.aload_n 0, 1) := by decide +kernel
theorem dX9_fair_54 : decode cX9_fair 54 = .ok (.iload_n 1, 1) := by decide +kernel
theorem dX9_fair_55 : decode cX9_fair 55 = .ok (.bipush (-9), 2) := by decide +kernel
theorem dX9_fair_57 : decode cX9_fair 57 = .ok (.invokevirtual 177, 3) := by decide +kernel
theorem dX9_fair_60 : decode cX9_fair 60 = .ok (.iadd, 1) := by decide +kernel
theorem dX9_fair_61 : decode cX9_fair 61 = .ok (.aload_n 0, 1) := by decide +kernel
theorem dX9_fair_62 : decode cX9_fair 62 = .ok (.getfield 13, 3) := by decide +kernel
theorem dX9_fair_65 : decode cX9_fair 65 = .ok (.iload_n 2, 1) := by decide +kernel
theorem dX9_fair_66 : decode cX9_fair 66 = .ok (.iaload, 1) := by decide +kernel
theorem dX9_fair_67 : decode cX9_fair 67 = .ok (.iadd, 1) := by decide +kernel
theorem dX9_fair_68 : decode cX9_fair 68 = .ok (.iconst 1, 1) := by decide +kernel
theorem dX9_fair_69 : decode cX9_fair 69 = .ok (.isub, 1) := by decide +kernel
theorem dX9_fair_70 : decode cX9_fair 70 = .ok (.aload_n 0, 1) := by decide +kernel
theorem dX9_fair_71 : decode cX9_fair 71 = .ok (.getfield 13, 3) := by decide +kernel
theorem dX9_fair_74 : decode cX9_fair 74 = .ok (.iload_n 2, 1) := by decide +kernel
theorem dX9_fair_75 : decode cX9_fair 75 = .ok (.iaload, 1) := by decide +kernel
theorem dX9_fair_76 : decode cX9_fair 76 = .ok (.idiv, 1) := by decide +kernel
theorem dX9_fair_77 : decode cX9_fair 77 = .ok (.ireturn, 1) := by decide +kernel
theorem zd_X9_fair : yX9_fair.cls ≠ "java/lang/invoke/MethodHandle" ∧ yX9_fair.cls ≠ "java/lang/invoke/VarHandle" ∧ (parseMethodDescriptor yX9_fair.desc).map (fun d => d.parameters.length) = some 3 := by decide +kernel
set_option maxHeartbeats 4000000 in
set_option maxRecDepth 100000 in
theorem zc_X9_fair (l : Launch) (D : va_G) (cI cZ : ClassId) (M : Nat) (th : Int32) (mtx : Nat) (len : Nat) (pl : Nat) (rt : Int32) (fr : Int32) (pr : Int32) (mod_ : Nat) (n : Nat) (mne : Nat) (mro : Nat) (m : Nat) (rrt : Int32) (rfr : Int32) (rpr : Int32) (mrod : Nat) (rn9 : Nat) (mrne : Nat) (mrro : Nat) (rm9 : Nat) (mrp : Nat) (mpg : Nat) (mbk : Nat) (ac : Nat) (mke : Nat) (mik : Nat) (cr : Nat) (mrw : Nat) (mrd : Nat) (sd : Int64) (mtr : Nat) (mwo : Nat) (mnx : Nat) (jr : Int32) (od : Nat → Int32) (g : Nat → Int32) (f : Nat → Int32) (x1 : Int32) (x2 : Int32) (x3 : Int32) (hn : n ≤ 5) (hpg : zpr n f g) : zI l yX9_fair cX9_fair 4 .int 2 50 D cI cZ [.ref M, .int x1, .int x2, .int x3] [(M, .inr (9, [.int th, .ref mtx, .int (nI len), .int (nI pl), .int rt, .int fr, .int pr, .ref mod_, .int (nI n), .ref mne, .ref mro, .int (nI m), .int rrt, .int rfr, .int rpr, .ref mrod, .int (nI rn9), .ref mrne, .ref mrro, .int (nI rm9), .ref mrp, .ref mpg, .ref mbk, .int (nI ac), .ref mke, .ref mik, .int (nI cr), .ref mrw, .ref mrd, .long sd, .ref mtr, .ref mwo, .ref mnx, .int jr])), (mod_, .inl (cI, 4, .inl od)), (mpg, .inl (cI, 36, .inl g))] (fun (r : Int32) (u : Unit) => r = zPa n x1 (fun p => zKa x2 (fun k => zRa 1 9 x3 (fun t => zfair f od rt fr p k (nI t)) (-2)) (-2)) (-1)) (fun (u : Unit) => [(M, .inr (9, [.int (nI 0), .ref mtx, .int (nI len), .int (nI pl), .int rt, .int fr, .int pr, .ref mod_, .int (nI n), .ref mne, .ref mro, .int (nI m), .int rrt, .int rfr, .int rpr, .ref mrod, .int (nI rn9), .ref mrne, .ref mrro, .int (nI rm9), .ref mrp, .ref mpg, .ref mbk, .int (nI ac), .ref mke, .ref mik, .int (nI cr), .ref mrw, .ref mrd, .long sd, .ref mtr, .ref mwo, .ref mnx, .int jr])), (mod_, .inl (cI, 4, .inl od)), (mpg, .inl (cI, 36, .inl g))]) := by
  refine zI_of (by decide) (Nat.le_of_ble_eq_true rfl) ?_
  intro pP eE sS mM aA bB mT cC A ls Z hP hD hS hl
  have hx := Z.1
  have hb := Z.2.1
  have hown := Z.2.2.2.2.2.1
  have hts := Z.2.2.2.2.1
  have Z : zAt pP sS mM aA mT cC D cI cZ A "SurpriseTaxModel" cX9_fair 4 (some .int) := Z
  have hl : lv_has ls 4 [(0, .ref M), (1, .int x1), (2, .int x2), (3, .int x3)] := hl
  obtain ⟨H, hH⟩ : ∃ H, H = sS.heap := ⟨_, rfl⟩
  have hP : va_P D vwCl [(M, .inr (9, [.int th, .ref mtx, .int (nI len), .int (nI pl), .int rt, .int fr, .int pr, .ref mod_, .int (nI n), .ref mne, .ref mro, .int (nI m), .int rrt, .int rfr, .int rpr, .ref mrod, .int (nI rn9), .ref mrne, .ref mrro, .int (nI rm9), .ref mrp, .ref mpg, .ref mbk, .int (nI ac), .ref mke, .ref mik, .int (nI cr), .ref mrw, .ref mrd, .long sd, .ref mtr, .ref mwo, .ref mnx, .int jr])), (mod_, .inl (cI, 4, .inl od)), (mpg, .inl (cI, 36, .inl g))] H := by rw [hH]; exact hP
  have hS : va_S A sS.heap H [] := by rw [hH]; exact hS
  rw [← hH]
  clear hH
  obtain ⟨locs, hlo⟩ : ∃ q : List Loc, q = [] := ⟨_, rfl⟩
  rw [← hlo] at hS ⊢
  clear hlo
  refine lv_aload_n hx hb dX9_fair_0 rfl (lv_at hl 0 rfl) ?_
  refine lv_iconst (v := nI 0) hx hb dX9_fair_1 (by decide) ?_
  refine z_put (ci := 9) (v := .int (nI 0)) Z zin9 tyX9 tyX9_ok nmX9 hP hD hS 0 rfl rfl 0 (by decide) zm677 rfl rfl rfl rfl (Nat.le_of_ble_eq_true rfl) dX9_fair_2 (fun H locs hP hD hS => ?_)
  have hP : va_P D vwCl [(M, .inr (9, [.int (nI 0), .ref mtx, .int (nI len), .int (nI pl), .int rt, .int fr, .int pr, .ref mod_, .int (nI n), .ref mne, .ref mro, .int (nI m), .int rrt, .int rfr, .int rpr, .ref mrod, .int (nI rn9), .ref mrne, .ref mrro, .int (nI rm9), .ref mrp, .ref mpg, .ref mbk, .int (nI ac), .ref mke, .ref mik, .int (nI cr), .ref mrw, .ref mrd, .long sd, .ref mtr, .ref mwo, .ref mnx, .int jr])), (mod_, .inl (cI, 4, .inl od)), (mpg, .inl (cI, 36, .inl g))] H := hP
  have hD : va_D A [(M, .inr (9, [.int (nI 0), .ref mtx, .int (nI len), .int (nI pl), .int rt, .int fr, .int pr, .ref mod_, .int (nI n), .ref mne, .ref mro, .int (nI m), .int rrt, .int rfr, .int rpr, .ref mrod, .int (nI rn9), .ref mrne, .ref mrro, .int (nI rm9), .ref mrp, .ref mpg, .ref mbk, .int (nI ac), .ref mke, .ref mik, .int (nI cr), .ref mrw, .ref mrd, .long sd, .ref mtr, .ref mwo, .ref mnx, .int jr])), (mod_, .inl (cI, 4, .inl od)), (mpg, .inl (cI, 36, .inl g))] := hD
  refine lv_aload_n hx hb dX9_fair_5 rfl (lv_at hl 0 rfl) ?_
  refine lv_iload_n hx hb dX9_fair_6 rfl (lv_at hl 1 rfl) ?_
  refine z_callVi (As := [.int x1]) (rest := []) (ci := 9) (k0 := 0) Z hP hD hS hl.1 (zc_X9_noOne l D cI cZ M (nI 0) mtx len pl rt fr pr mod_ n mne mro m rrt rfr rpr mrod rn9 mrne mrro rm9 mrp mpg mbk ac mke mik cr mrw mrd sd mtr mwo mnx jr x1 (by omega)) zm797 zm798 zm19 zm39 zm799 ⟨rfl, zd_X9_noOne⟩ ⟨Nat.le_of_ble_eq_true rfl, Nat.le_of_ble_eq_true rfl⟩ ⟨Nat.zero_le _, Nat.zero_le _⟩ [0] rfl (by decide) rfl rfl rfl (fun _ => rfl) rfl (Nat.le_of_ble_eq_true rfl) rfl dX9_fair_7 (fun r_1 u H locs h_2 hP hD hS => ?_)
  have hP : va_P D vwCl [(M, .inr (9, [.int (nI 0), .ref mtx, .int (nI len), .int (nI pl), .int rt, .int fr, .int pr, .ref mod_, .int (nI n), .ref mne, .ref mro, .int (nI m), .int rrt, .int rfr, .int rpr, .ref mrod, .int (nI rn9), .ref mrne, .ref mrro, .int (nI rm9), .ref mrp, .ref mpg, .ref mbk, .int (nI ac), .ref mke, .ref mik, .int (nI cr), .ref mrw, .ref mrd, .long sd, .ref mtr, .ref mwo, .ref mnx, .int jr])), (mod_, .inl (cI, 4, .inl od)), (mpg, .inl (cI, 36, .inl g))] H := hP
  have hD : va_D A [(M, .inr (9, [.int (nI 0), .ref mtx, .int (nI len), .int (nI pl), .int rt, .int fr, .int pr, .ref mod_, .int (nI n), .ref mne, .ref mro, .int (nI m), .int rrt, .int rfr, .int rpr, .ref mrod, .int (nI rn9), .ref mrne, .ref mrro, .int (nI rm9), .ref mrp, .ref mpg, .ref mbk, .int (nI ac), .ref mke, .ref mik, .int (nI cr), .ref mrw, .ref mrd, .long sd, .ref mtr, .ref mwo, .ref mnx, .int jr])), (mod_, .inl (cI, 4, .inl od)), (mpg, .inl (cI, 36, .inl g))] := hD
  have h_2 : r_1 = if ¬ zhas n x1 then 1 else 0 := h_2
  subst h_2
  refine lv_if_eq (tgt := 15) hx hb dX9_fair_10 (by decide) (fun c_3 => ?_) (fun c_3 => ?_)
  · have c_3 := zb0 c_3
    have hzz := Classical.not_not.mp c_3
    obtain ⟨p, hp, rfl⟩ := zhas_of (by omega) hzz
    refine lv_iload_n hx hb dX9_fair_15 rfl (lv_at hl 2 rfl) ?_
    refine z_callSi (As := [.int x2]) (rest := []) Z hP hD hS hl.1 (zc_X9_noKind l D cI cZ x2 ) zm806 zm807 zm39 zm808 zd_X9_noKind ⟨Nat.le_of_ble_eq_true rfl, Nat.le_of_ble_eq_true rfl⟩ ⟨Nat.zero_le _, Nat.zero_le _⟩ [] rfl (by decide) (fun _ => rfl) rfl (Nat.le_of_ble_eq_true rfl) rfl dX9_fair_16 (fun r_4 u H locs h_5 hP hD hS => ?_)
    have hP : va_P D vwCl [(M, .inr (9, [.int (nI 0), .ref mtx, .int (nI len), .int (nI pl), .int rt, .int fr, .int pr, .ref mod_, .int (nI n), .ref mne, .ref mro, .int (nI m), .int rrt, .int rfr, .int rpr, .ref mrod, .int (nI rn9), .ref mrne, .ref mrro, .int (nI rm9), .ref mrp, .ref mpg, .ref mbk, .int (nI ac), .ref mke, .ref mik, .int (nI cr), .ref mrw, .ref mrd, .long sd, .ref mtr, .ref mwo, .ref mnx, .int jr])), (mod_, .inl (cI, 4, .inl od)), (mpg, .inl (cI, 36, .inl g))] H := hP
    have hD : va_D A [(M, .inr (9, [.int (nI 0), .ref mtx, .int (nI len), .int (nI pl), .int rt, .int fr, .int pr, .ref mod_, .int (nI n), .ref mne, .ref mro, .int (nI m), .int rrt, .int rfr, .int rpr, .ref mrod, .int (nI rn9), .ref mrne, .ref mrro, .int (nI rm9), .ref mrp, .ref mpg, .ref mbk, .int (nI ac), .ref mke, .ref mik, .int (nI cr), .ref mrw, .ref mrd, .long sd, .ref mtr, .ref mwo, .ref mnx, .int jr])), (mod_, .inl (cI, 4, .inl od)), (mpg, .inl (cI, 36, .inl g))] := hD
    have h_5 : r_4 = if ¬ zkind x2 then 1 else 0 := h_5
    subst h_5
    refine lv_if_ne (tgt := 34) hx hb dX9_fair_19 (by decide) (fun c_6 => ?_) (fun c_6 => ?_)
    · have c_6 := zb1 c_6
      refine lv_bipush (v := -2) hx hb dX9_fair_34 (by decide) ?_
      exact z_iret Z () (by first | rw [zPa_n (by assumption)] | (rw [zPa_y hp hn]; first | rw [zKa_n (by assumption)] | (rw [zKa_y hk]; first | rw [zRa_n hrgn] | (rw [zRa_y ht0 ht (by decide)]; unfold zfair; first | rw [if_pos (by assumption)] | rw [if_neg (by assumption)]))) | rfl) hP hS dX9_fair_36
    · have c_6 := zb0 c_6
      have hzk := Classical.not_not.mp c_6
      obtain ⟨k, hk, rfl⟩ := zkind_of hzk
      refine lv_iload_n hx hb dX9_fair_22 rfl (lv_at hl 3 rfl) ?_
      refine lv_i2l (v := x3.toInt64) hx hb dX9_fair_23 rfl ?_
      refine lv_lconst (v := 1) hx hb dX9_fair_24 (by decide) ?_
      refine lv_ldc2 (v := 9) hx hb hown (hts _ zm932) dX9_fair_25 ?_
      refine z_callSi (As := [.long x3.toInt64, .long 1, .long 9]) (rest := []) Z hP hD hS hl.1 (zc_X9_in l D cI cZ x3.toInt64 1 9 ) zm750 zm751 zm39 zm752 zd_X9_in ⟨Nat.le_of_ble_eq_true rfl, Nat.le_of_ble_eq_true rfl⟩ ⟨Nat.zero_le _, Nat.zero_le _⟩ [] rfl (by decide) (fun _ => rfl) rfl (Nat.le_of_ble_eq_true rfl) rfl dX9_fair_28 (fun r_7 u H locs h_8 hP hD hS => ?_)
      have hP : va_P D vwCl [(M, .inr (9, [.int (nI 0), .ref mtx, .int (nI len), .int (nI pl), .int rt, .int fr, .int pr, .ref mod_, .int (nI n), .ref mne, .ref mro, .int (nI m), .int rrt, .int rfr, .int rpr, .ref mrod, .int (nI rn9), .ref mrne, .ref mrro, .int (nI rm9), .ref mrp, .ref mpg, .ref mbk, .int (nI ac), .ref mke, .ref mik, .int (nI cr), .ref mrw, .ref mrd, .long sd, .ref mtr, .ref mwo, .ref mnx, .int jr])), (mod_, .inl (cI, 4, .inl od)), (mpg, .inl (cI, 36, .inl g))] H := hP
      have hD : va_D A [(M, .inr (9, [.int (nI 0), .ref mtx, .int (nI len), .int (nI pl), .int rt, .int fr, .int pr, .ref mod_, .int (nI n), .ref mne, .ref mro, .int (nI m), .int rrt, .int rfr, .int rpr, .ref mrod, .int (nI rn9), .ref mrne, .ref mrro, .int (nI rm9), .ref mrp, .ref mpg, .ref mbk, .int (nI ac), .ref mke, .ref mik, .int (nI cr), .ref mrw, .ref mrd, .long sd, .ref mtr, .ref mwo, .ref mnx, .int jr])), (mod_, .inl (cI, 4, .inl od)), (mpg, .inl (cI, 36, .inl g))] := hD
      have h_8 : r_7 = if ¬ x3.toInt64 < 1 ∧ ¬ 9 < x3.toInt64 then 1 else 0 := h_8
      subst h_8
      refine lv_if_ne (tgt := 37) hx hb dX9_fair_31 (by decide) (fun c_9 => ?_) (fun c_9 => ?_)
      · have c_9 := zb1 c_9
        have hrg := (zinr (x := x3) 1 9 rfl rfl).mp c_9
        obtain ⟨t, ht0, ht, rfl⟩ := zRa_of (lo := 1) (hi := 9) (by decide) (by decide) hrg.1 hrg.2
        refine lv_aload_n hx hb dX9_fair_37 rfl (lv_at hl 0 rfl) ?_
        refine z_get (ci := 9) (v := .ref mod_) Z zin9 hP 0 rfl rfl 7 (by decide) zm684 rfl rfl dX9_fair_38 ?_
        refine lv_iload_n hx hb dX9_fair_41 rfl (lv_at hl 2 rfl) ?_
        refine z_iald (n := 4) (f := od) (j := k) Z hP 1 rfl (by omega) (by decide) dX9_fair_42 ?_
        refine lv_if_ne (tgt := 49) hx hb dX9_fair_43 (by decide) (fun c_10 => ?_) (fun c_10 => ?_)
        · have c_10 : ¬ ((od k) = 0) := c_10
          refine lv_bipush (v := nI 10) hx hb dX9_fair_49 (by decide) ?_
          refine lv_iload_n hx hb dX9_fair_51 rfl (lv_at hl 3 rfl) ?_
          refine lv_imul hx hb dX9_fair_52 ?_
          refine z_top (y := nI (10 * t)) (z_mul _ _) ?_
          refine z_top (y := 10 * nI t) ((z_mul 10 t).symm) ?_
          refine lv_aload_n hx hb dX9_fair_53 rfl (lv_at hl 0 rfl) ?_
          refine lv_iload_n hx hb dX9_fair_54 rfl (lv_at hl 1 rfl) ?_
          refine lv_bipush (v := -9) hx hb dX9_fair_55 (by decide) ?_
          refine z_callVi (As := [.int (nI p), .int (-9)]) (rest := [.int (10 * nI t)]) (ci := 9) (k0 := 0) Z hP hD hS hl.1 (zc_X9_tenMean l D cI cZ M (nI 0) mtx len pl rt fr pr mod_ n mne mro m rrt rfr rpr mrod rn9 mrne mrro rm9 mrp mpg mbk ac mke mik cr mrw mrd sd mtr mwo mnx jr od g f p (-9) (by first | omega | exact hpg.1 p hp) (by first | omega | exact hpg.1 p hp)) zm844 zm845 zm23 zm39 zm846 ⟨rfl, zd_X9_tenMean⟩ ⟨Nat.le_of_ble_eq_true rfl, Nat.le_of_ble_eq_true rfl⟩ ⟨Nat.zero_le _, Nat.zero_le _⟩ [0, 1, 2] rfl (by decide) rfl rfl rfl (fun _ => rfl) rfl (Nat.le_of_ble_eq_true rfl) rfl dX9_fair_57 (fun r_11 u H locs h_12 hP hD hS => ?_)
          have hP : va_P D vwCl [(M, .inr (9, [.int (nI 0), .ref mtx, .int (nI len), .int (nI pl), .int rt, .int fr, .int pr, .ref mod_, .int (nI n), .ref mne, .ref mro, .int (nI m), .int rrt, .int rfr, .int rpr, .ref mrod, .int (nI rn9), .ref mrne, .ref mrro, .int (nI rm9), .ref mrp, .ref mpg, .ref mbk, .int (nI ac), .ref mke, .ref mik, .int (nI cr), .ref mrw, .ref mrd, .long sd, .ref mtr, .ref mwo, .ref mnx, .int jr])), (mod_, .inl (cI, 4, .inl od)), (mpg, .inl (cI, 36, .inl g))] H := hP
          have hD : va_D A [(M, .inr (9, [.int (nI 0), .ref mtx, .int (nI len), .int (nI pl), .int rt, .int fr, .int pr, .ref mod_, .int (nI n), .ref mne, .ref mro, .int (nI m), .int rrt, .int rfr, .int rpr, .ref mrod, .int (nI rn9), .ref mrne, .ref mrro, .int (nI rm9), .ref mrp, .ref mpg, .ref mbk, .int (nI ac), .ref mke, .ref mik, .int (nI cr), .ref mrw, .ref mrd, .long sd, .ref mtr, .ref mwo, .ref mnx, .int jr])), (mod_, .inl (cI, 4, .inl od)), (mpg, .inl (cI, 36, .inl g))] := hD
          have h_12 : r_11 = zmtd f od rt fr p (if (-9) = -9 then f (25 + p) else (-9)) 4 := h_12
          subst h_12
          refine z_top (y := zmt f od rt fr p 4) (zmt_own) ?_
          refine lv_iadd hx hb dX9_fair_60 ?_
          refine z_top (y := (10 * nI t) + (zmt f od rt fr p 4)) rfl ?_
          refine lv_aload_n hx hb dX9_fair_61 rfl (lv_at hl 0 rfl) ?_
          refine z_get (ci := 9) (v := .ref mod_) Z zin9 hP 0 rfl rfl 7 (by decide) zm684 rfl rfl dX9_fair_62 ?_
          refine lv_iload_n hx hb dX9_fair_65 rfl (lv_at hl 2 rfl) ?_
          refine z_iald (n := 4) (f := od) (j := k) Z hP 1 rfl (by omega) (by decide) dX9_fair_66 ?_
          refine lv_iadd hx hb dX9_fair_67 ?_
          refine z_top (y := ((10 * nI t) + (zmt f od rt fr p 4)) + (od k)) rfl ?_
          refine lv_iconst (v := nI 1) hx hb dX9_fair_68 (by decide) ?_
          refine lv_isub hx hb dX9_fair_69 ?_
          refine z_top (y := (((10 * nI t) + (zmt f od rt fr p 4)) + (od k)) - 1) rfl ?_
          refine lv_aload_n hx hb dX9_fair_70 rfl (lv_at hl 0 rfl) ?_
          refine z_get (ci := 9) (v := .ref mod_) Z zin9 hP 0 rfl rfl 7 (by decide) zm684 rfl rfl dX9_fair_71 ?_
          refine lv_iload_n hx hb dX9_fair_74 rfl (lv_at hl 2 rfl) ?_
          refine z_iald (n := 4) (f := od) (j := k) Z hP 1 rfl (by omega) (by decide) dX9_fair_75 ?_
          refine lv_idiv hx hb dX9_fair_76 (by assumption) ?_
          refine z_top (y := ((((10 * nI t) + (zmt f od rt fr p 4)) + (od k)) - 1) / (od k)) rfl ?_
          exact z_iret Z () (by first | rw [zPa_n (by assumption)] | (rw [zPa_y hp hn]; first | rw [zKa_n (by assumption)] | (rw [zKa_y hk]; first | rw [zRa_n hrgn] | (rw [zRa_y ht0 ht (by decide)]; unfold zfair; first | rw [if_pos (by assumption)] | rw [if_neg (by assumption)]))) | rfl) hP hS dX9_fair_77
        · have c_10 : (od k) = 0 := c_10
          refine lv_bipush (v := -9) hx hb dX9_fair_46 (by decide) ?_
          exact z_iret Z () (by first | rw [zPa_n (by assumption)] | (rw [zPa_y hp hn]; first | rw [zKa_n (by assumption)] | (rw [zKa_y hk]; first | rw [zRa_n hrgn] | (rw [zRa_y ht0 ht (by decide)]; unfold zfair; first | rw [if_pos (by assumption)] | rw [if_neg (by assumption)]))) | rfl) hP hS dX9_fair_48
      · have c_9 := zb0 c_9
        have hrgn := fun q => c_9 ((zinr (x := x3) 1 9 rfl rfl).mpr q)
        refine lv_bipush (v := -2) hx hb dX9_fair_34 (by decide) ?_
        exact z_iret Z () (by first | rw [zPa_n (by assumption)] | (rw [zPa_y hp hn]; first | rw [zKa_n (by assumption)] | (rw [zKa_y hk]; first | rw [zRa_n hrgn] | (rw [zRa_y ht0 ht (by decide)]; unfold zfair; first | rw [if_pos (by assumption)] | rw [if_neg (by assumption)]))) | rfl) hP hS dX9_fair_36
  · have c_3 := zb1 c_3
    refine lv_iconst (v := -1) hx hb dX9_fair_13 (by decide) ?_
    exact z_iret Z () (by first | rw [zPa_n (by assumption)] | (rw [zPa_y hp hn]; first | rw [zKa_n (by assumption)] | (rw [zKa_y hk]; first | rw [zRa_n hrgn] | (rw [zRa_y ht0 ht (by decide)]; unfold zfair; first | rw [if_pos (by assumption)] | rw [if_neg (by assumption)]))) | rfl) hP hS dX9_fair_14

theorem dX9_roll_0 : decode cX9_roll 0 = .ok (.aload_n 0, 1) := by decide +kernel
theorem dX9_roll_1 : decode cX9_roll 1 = .ok (.iconst 0, 1) := by decide +kernel
theorem dX9_roll_2 : decode cX9_roll 2 = .ok (.putfield 62, 3) := by decide +kernel
theorem dX9_roll_5 : decode cX9_roll 5 = .ok (.aload_n 0, 1) := by decide +kernel
theorem dX9_roll_6 : decode cX9_roll 6 = .ok (.iload_n 1, 1) := by decide +kernel
theorem dX9_roll_7 : decode cX9_roll 7 = .ok (.invokevirtual 147, 3) := by decide +kernel
theorem dX9_roll_10 : decode cX9_roll 10 = .ok (.ifCond .eq 5, 3) := by decide +kernel
theorem dX9_roll_13 : decode cX9_roll 13 = .ok (.iconst (-1), 1) := by decide +kernel
theorem dX9_roll_14 : decode cX9_roll 14 = .ok (.ireturn, 1) := by decide +kernel
theorem dX9_roll_15 : decode cX9_roll 15 = .ok (.iload_n 2, 1) := by decide +kernel
theorem dX9_roll_16 : decode cX9_roll 16 = .ok (.i2l, 1) := by decide +kernel
theorem dX9_roll_17 : decode cX9_roll 17 = .ok (.lconst 0, 1) := by decide +kernel
theorem dX9_roll_18 : decode cX9_roll 18 = .ok (.ldc2_w 215, 3) := by decide +kernel
theorem dX9_roll_21 : decode cX9_roll 21 = .ok (.invokestatic 69, 3) := by decide +kernel
theorem dX9_roll_24 : decode cX9_roll 24 = .ok (.ifCond .ne 6, 3) := by decide +kernel
theorem dX9_roll_27 : decode cX9_roll 27 = .ok (.bipush (-2), 2) := by decide +kernel
theorem dX9_roll_29 : decode cX9_roll 29 = .ok (.ireturn, 1) := by decide +kernel
theorem dX9_roll_30 : decode cX9_roll 30 = .ok (.aload_n 0, 1) := by decide +kernel
theorem dX9_roll_31 : decode cX9_roll 31 = .ok (.getfield 144, 3) := by decide +kernel
theorem dX9_roll_34 : decode cX9_roll 34 = .ok (.bipush 6, 2) := by decide +kernel
theorem dX9_roll_36 : decode cX9_roll 36 = .ok (.if_icmp .ne 6, 3) := by decide +kernel
theorem dX9_roll_39 : decode cX9_roll 39 = .ok (.bipush (-4), 2) := by decide +kernel
theorem dX9_roll_41 : decode cX9_roll 41 = .ok (.ireturn, 1) := by decide +kernel
theorem dX9_roll_42 : decode cX9_roll 42 = .ok (.aload_n 0, 1) := by decide +kernel
theorem dX9_roll_43 : decode cX9_roll 43 = .ok (.getfield 47, 3) := by decide +kernel
theorem dX9_roll_46 : decode cX9_roll 46 = .ok (.aload_n 0, 1) := by decide +kernel
theorem dX9_roll_47 : decode cX9_roll 47 = .ok (.getfield 144, 3) := by decide +kernel
theorem dX9_roll_50 : decode cX9_roll 50 = .ok (.iload_n 1, 1) := by decide +kernel
theorem dX9_roll_51 : decode cX9_roll 51 = .ok (.iastore, 1) := by decide +kernel
theorem dX9_roll_52 : decode cX9_roll 52 = .ok (.aload_n 0, 1) := by decide +kernel
theorem dX9_roll_53 : decode cX9_roll 53 = .ok (.getfield 50, 3) := by decide +kernel
theorem dX9_roll_56 : decode cX9_roll 56 = .ok (.aload_n 0, 1) := by decide +kernel
theorem dX9_roll_57 : decode cX9_roll 57 = .ok (.getfield 144, 3) := by decide +kernel
theorem dX9_roll_60 : decode cX9_roll 60 = .ok (.iload_n 2, 1) := by decide +kernel
theorem dX9_roll_61 : decode cX9_roll 61 = .ok (.iastore, 1) := by decide +kernel
theorem dX9_roll_62 : decode cX9_roll 62 = .ok (.aload_n 0, 1) := by decide +kernel
theorem dX9_roll_63 : decode cX9_roll 63 = .ok (.dup, 1) := by decide +kernel
theorem dX9_roll_64 : decode cX9_roll 64 = .ok (.getfield 144, 3) := by decide +kernel
theorem dX9_roll_67 : decode cX9_roll 67 = .ok (.iconst 1, 1) := by decide +kernel
theorem dX9_roll_68 : decode cX9_roll 68 = .ok (.iadd, 1) := by decide +kernel
theorem dX9_roll_69 : decode cX9_roll 69 = .ok (.putfield 144, 3) := by decide +kernel
theorem dX9_roll_72 : decode cX9_roll 72 = .ok (.aload_n 0, 1) := by decide +kernel
theorem dX9_roll_73 : decode cX9_roll 73 = .ok (.getfield 144, 3) := by decide +kernel
theorem dX9_roll_76 : decode cX9_roll 76 = .ok (.ireturn, 1) := by decide +kernel
theorem zd_X9_roll : yX9_roll.cls ≠ "java/lang/invoke/MethodHandle" ∧ yX9_roll.cls ≠ "java/lang/invoke/VarHandle" ∧ (parseMethodDescriptor yX9_roll.desc).map (fun d => d.parameters.length) = some 2 := by decide +kernel
set_option maxHeartbeats 4000000 in
set_option maxRecDepth 100000 in
theorem zc_X9_roll (l : Launch) (D : va_G) (cI cZ : ClassId) (M : Nat) (th : Int32) (mtx : Nat) (len : Nat) (pl : Nat) (rt : Int32) (fr : Int32) (pr : Int32) (mod_ : Nat) (n : Nat) (mne : Nat) (mro : Nat) (m : Nat) (rrt : Int32) (rfr : Int32) (rpr : Int32) (mrod : Nat) (rn9 : Nat) (mrne : Nat) (mrro : Nat) (rm9 : Nat) (mrp : Nat) (mpg : Nat) (mbk : Nat) (ac : Nat) (mke : Nat) (mik : Nat) (cr : Nat) (mrw : Nat) (mrd : Nat) (sd : Int64) (mtr : Nat) (mwo : Nat) (mnx : Nat) (jr : Int32) (pw : Nat → Int32) (pd : Nat → Int32) (x1 : Int32) (x2 : Int32) (hn : n ≤ 5) (hcr : cr ≤ 6) : zI l yX9_roll cX9_roll 3 .int 2 46 D cI cZ [.ref M, .int x1, .int x2] [(M, .inr (9, [.int th, .ref mtx, .int (nI len), .int (nI pl), .int rt, .int fr, .int pr, .ref mod_, .int (nI n), .ref mne, .ref mro, .int (nI m), .int rrt, .int rfr, .int rpr, .ref mrod, .int (nI rn9), .ref mrne, .ref mrro, .int (nI rm9), .ref mrp, .ref mpg, .ref mbk, .int (nI ac), .ref mke, .ref mik, .int (nI cr), .ref mrw, .ref mrd, .long sd, .ref mtr, .ref mwo, .ref mnx, .int jr])), (mrw, .inl (cI, 6, .inl pw)), (mrd, .inl (cI, 6, .inl pd))] (fun (r : Int32) (u : Unit) => r = zPa n x1 (fun p => zRa 0 99 x2 (fun t => if cr < 6 then nI (cr + 1) else -4) (-2)) (-1)) (fun (u : Unit) => [(M, .inr (9, [.int (nI 0), .ref mtx, .int (nI len), .int (nI pl), .int rt, .int fr, .int pr, .ref mod_, .int (nI n), .ref mne, .ref mro, .int (nI m), .int rrt, .int rfr, .int rpr, .ref mrod, .int (nI rn9), .ref mrne, .ref mrro, .int (nI rm9), .ref mrp, .ref mpg, .ref mbk, .int (nI ac), .ref mke, .ref mik, .int (nI (zPa n x1 (fun p => zRa 0 99 x2 (fun t => if cr < 6 then cr + 1 else cr) cr) cr)), .ref mrw, .ref mrd, .long sd, .ref mtr, .ref mwo, .ref mnx, .int jr])), (mrw, .inl (cI, 6, .inl (zPa n x1 (fun p => zRa 0 99 x2 (fun t => if cr < 6 then upd pw cr (nI p) else pw) pw) pw))), (mrd, .inl (cI, 6, .inl (zPa n x1 (fun p => zRa 0 99 x2 (fun t => if cr < 6 then upd pd cr (nI t) else pd) pd) pd)))]) := by
  refine zI_of (by decide) (Nat.le_of_ble_eq_true rfl) ?_
  intro pP eE sS mM aA bB mT cC A ls Z hP hD hS hl
  have hx := Z.1
  have hb := Z.2.1
  have hown := Z.2.2.2.2.2.1
  have hts := Z.2.2.2.2.1
  have Z : zAt pP sS mM aA mT cC D cI cZ A "SurpriseTaxModel" cX9_roll 3 (some .int) := Z
  have hl : lv_has ls 3 [(0, .ref M), (1, .int x1), (2, .int x2)] := hl
  obtain ⟨H, hH⟩ : ∃ H, H = sS.heap := ⟨_, rfl⟩
  have hP : va_P D vwCl [(M, .inr (9, [.int th, .ref mtx, .int (nI len), .int (nI pl), .int rt, .int fr, .int pr, .ref mod_, .int (nI n), .ref mne, .ref mro, .int (nI m), .int rrt, .int rfr, .int rpr, .ref mrod, .int (nI rn9), .ref mrne, .ref mrro, .int (nI rm9), .ref mrp, .ref mpg, .ref mbk, .int (nI ac), .ref mke, .ref mik, .int (nI cr), .ref mrw, .ref mrd, .long sd, .ref mtr, .ref mwo, .ref mnx, .int jr])), (mrw, .inl (cI, 6, .inl pw)), (mrd, .inl (cI, 6, .inl pd))] H := by rw [hH]; exact hP
  have hS : va_S A sS.heap H [] := by rw [hH]; exact hS
  rw [← hH]
  clear hH
  obtain ⟨locs, hlo⟩ : ∃ q : List Loc, q = [] := ⟨_, rfl⟩
  rw [← hlo] at hS ⊢
  clear hlo
  refine lv_aload_n hx hb dX9_roll_0 rfl (lv_at hl 0 rfl) ?_
  refine lv_iconst (v := nI 0) hx hb dX9_roll_1 (by decide) ?_
  refine z_put (ci := 9) (v := .int (nI 0)) Z zin9 tyX9 tyX9_ok nmX9 hP hD hS 0 rfl rfl 0 (by decide) zm677 rfl rfl rfl rfl (Nat.le_of_ble_eq_true rfl) dX9_roll_2 (fun H locs hP hD hS => ?_)
  have hP : va_P D vwCl [(M, .inr (9, [.int (nI 0), .ref mtx, .int (nI len), .int (nI pl), .int rt, .int fr, .int pr, .ref mod_, .int (nI n), .ref mne, .ref mro, .int (nI m), .int rrt, .int rfr, .int rpr, .ref mrod, .int (nI rn9), .ref mrne, .ref mrro, .int (nI rm9), .ref mrp, .ref mpg, .ref mbk, .int (nI ac), .ref mke, .ref mik, .int (nI cr), .ref mrw, .ref mrd, .long sd, .ref mtr, .ref mwo, .ref mnx, .int jr])), (mrw, .inl (cI, 6, .inl pw)), (mrd, .inl (cI, 6, .inl pd))] H := hP
  have hD : va_D A [(M, .inr (9, [.int (nI 0), .ref mtx, .int (nI len), .int (nI pl), .int rt, .int fr, .int pr, .ref mod_, .int (nI n), .ref mne, .ref mro, .int (nI m), .int rrt, .int rfr, .int rpr, .ref mrod, .int (nI rn9), .ref mrne, .ref mrro, .int (nI rm9), .ref mrp, .ref mpg, .ref mbk, .int (nI ac), .ref mke, .ref mik, .int (nI cr), .ref mrw, .ref mrd, .long sd, .ref mtr, .ref mwo, .ref mnx, .int jr])), (mrw, .inl (cI, 6, .inl pw)), (mrd, .inl (cI, 6, .inl pd))] := hD
  refine lv_aload_n hx hb dX9_roll_5 rfl (lv_at hl 0 rfl) ?_
  refine lv_iload_n hx hb dX9_roll_6 rfl (lv_at hl 1 rfl) ?_
  refine z_callVi (As := [.int x1]) (rest := []) (ci := 9) (k0 := 0) Z hP hD hS hl.1 (zc_X9_noOne l D cI cZ M (nI 0) mtx len pl rt fr pr mod_ n mne mro m rrt rfr rpr mrod rn9 mrne mrro rm9 mrp mpg mbk ac mke mik cr mrw mrd sd mtr mwo mnx jr x1 (by omega)) zm797 zm798 zm19 zm39 zm799 ⟨rfl, zd_X9_noOne⟩ ⟨Nat.le_of_ble_eq_true rfl, Nat.le_of_ble_eq_true rfl⟩ ⟨Nat.zero_le _, Nat.zero_le _⟩ [0] rfl (by decide) rfl rfl rfl (fun _ => rfl) rfl (Nat.le_of_ble_eq_true rfl) rfl dX9_roll_7 (fun r_1 u H locs h_2 hP hD hS => ?_)
  have hP : va_P D vwCl [(M, .inr (9, [.int (nI 0), .ref mtx, .int (nI len), .int (nI pl), .int rt, .int fr, .int pr, .ref mod_, .int (nI n), .ref mne, .ref mro, .int (nI m), .int rrt, .int rfr, .int rpr, .ref mrod, .int (nI rn9), .ref mrne, .ref mrro, .int (nI rm9), .ref mrp, .ref mpg, .ref mbk, .int (nI ac), .ref mke, .ref mik, .int (nI cr), .ref mrw, .ref mrd, .long sd, .ref mtr, .ref mwo, .ref mnx, .int jr])), (mrw, .inl (cI, 6, .inl pw)), (mrd, .inl (cI, 6, .inl pd))] H := hP
  have hD : va_D A [(M, .inr (9, [.int (nI 0), .ref mtx, .int (nI len), .int (nI pl), .int rt, .int fr, .int pr, .ref mod_, .int (nI n), .ref mne, .ref mro, .int (nI m), .int rrt, .int rfr, .int rpr, .ref mrod, .int (nI rn9), .ref mrne, .ref mrro, .int (nI rm9), .ref mrp, .ref mpg, .ref mbk, .int (nI ac), .ref mke, .ref mik, .int (nI cr), .ref mrw, .ref mrd, .long sd, .ref mtr, .ref mwo, .ref mnx, .int jr])), (mrw, .inl (cI, 6, .inl pw)), (mrd, .inl (cI, 6, .inl pd))] := hD
  have h_2 : r_1 = if ¬ zhas n x1 then 1 else 0 := h_2
  subst h_2
  refine lv_if_eq (tgt := 15) hx hb dX9_roll_10 (by decide) (fun c_3 => ?_) (fun c_3 => ?_)
  · have c_3 := zb0 c_3
    have hzz := Classical.not_not.mp c_3
    obtain ⟨p, hp, rfl⟩ := zhas_of (by omega) hzz
    refine lv_iload_n hx hb dX9_roll_15 rfl (lv_at hl 2 rfl) ?_
    refine lv_i2l (v := x2.toInt64) hx hb dX9_roll_16 rfl ?_
    refine lv_lconst (v := 0) hx hb dX9_roll_17 (by decide) ?_
    refine lv_ldc2 (v := 99) hx hb hown (hts _ zm906) dX9_roll_18 ?_
    refine z_callSi (As := [.long x2.toInt64, .long 0, .long 99]) (rest := []) Z hP hD hS hl.1 (zc_X9_in l D cI cZ x2.toInt64 0 99 ) zm750 zm751 zm39 zm752 zd_X9_in ⟨Nat.le_of_ble_eq_true rfl, Nat.le_of_ble_eq_true rfl⟩ ⟨Nat.zero_le _, Nat.zero_le _⟩ [] rfl (by decide) (fun _ => rfl) rfl (Nat.le_of_ble_eq_true rfl) rfl dX9_roll_21 (fun r_4 u H locs h_5 hP hD hS => ?_)
    have hP : va_P D vwCl [(M, .inr (9, [.int (nI 0), .ref mtx, .int (nI len), .int (nI pl), .int rt, .int fr, .int pr, .ref mod_, .int (nI n), .ref mne, .ref mro, .int (nI m), .int rrt, .int rfr, .int rpr, .ref mrod, .int (nI rn9), .ref mrne, .ref mrro, .int (nI rm9), .ref mrp, .ref mpg, .ref mbk, .int (nI ac), .ref mke, .ref mik, .int (nI cr), .ref mrw, .ref mrd, .long sd, .ref mtr, .ref mwo, .ref mnx, .int jr])), (mrw, .inl (cI, 6, .inl pw)), (mrd, .inl (cI, 6, .inl pd))] H := hP
    have hD : va_D A [(M, .inr (9, [.int (nI 0), .ref mtx, .int (nI len), .int (nI pl), .int rt, .int fr, .int pr, .ref mod_, .int (nI n), .ref mne, .ref mro, .int (nI m), .int rrt, .int rfr, .int rpr, .ref mrod, .int (nI rn9), .ref mrne, .ref mrro, .int (nI rm9), .ref mrp, .ref mpg, .ref mbk, .int (nI ac), .ref mke, .ref mik, .int (nI cr), .ref mrw, .ref mrd, .long sd, .ref mtr, .ref mwo, .ref mnx, .int jr])), (mrw, .inl (cI, 6, .inl pw)), (mrd, .inl (cI, 6, .inl pd))] := hD
    have h_5 : r_4 = if ¬ x2.toInt64 < 0 ∧ ¬ 99 < x2.toInt64 then 1 else 0 := h_5
    subst h_5
    refine lv_if_ne (tgt := 30) hx hb dX9_roll_24 (by decide) (fun c_6 => ?_) (fun c_6 => ?_)
    · have c_6 := zb1 c_6
      have hrg := (zinr (x := x2) 0 99 rfl rfl).mp c_6
      obtain ⟨t, ht0, ht, rfl⟩ := zRa_of (lo := 0) (hi := 99) (by decide) (by decide) hrg.1 hrg.2
      refine lv_aload_n hx hb dX9_roll_30 rfl (lv_at hl 0 rfl) ?_
      refine z_get (ci := 9) (v := .int (nI cr)) Z zin9 hP 0 rfl rfl 26 (by decide) zm703 rfl rfl dX9_roll_31 ?_
      refine lv_bipush (v := nI 6) hx hb dX9_roll_34 (by decide) ?_
      refine lv_icmp_ne (tgt := 42) hx hb dX9_roll_36 (by decide) (fun c_7 => ?_) (fun c_7 => ?_)
      · have c_7 := zne (i := cr) (j := 6) c_7
        refine lv_aload_n hx hb dX9_roll_42 rfl (lv_at hl 0 rfl) ?_
        refine z_get (ci := 9) (v := .ref mrw) Z zin9 hP 0 rfl rfl 27 (by decide) zm704 rfl rfl dX9_roll_43 ?_
        refine lv_aload_n hx hb dX9_roll_46 rfl (lv_at hl 0 rfl) ?_
        refine z_get (ci := 9) (v := .int (nI cr)) Z zin9 hP 0 rfl rfl 26 (by decide) zm703 rfl rfl dX9_roll_47 ?_
        refine lv_iload_n hx hb dX9_roll_50 rfl (lv_at hl 1 rfl) ?_
        refine z_iast (n := 6) (f := pw) (j := cr) (x := nI p) Z hP hD hS 1 rfl (by omega) (by decide) dX9_roll_51 (fun H locs hP hD hS => ?_)
        have hP : va_P D vwCl [(M, .inr (9, [.int (nI 0), .ref mtx, .int (nI len), .int (nI pl), .int rt, .int fr, .int pr, .ref mod_, .int (nI n), .ref mne, .ref mro, .int (nI m), .int rrt, .int rfr, .int rpr, .ref mrod, .int (nI rn9), .ref mrne, .ref mrro, .int (nI rm9), .ref mrp, .ref mpg, .ref mbk, .int (nI ac), .ref mke, .ref mik, .int (nI cr), .ref mrw, .ref mrd, .long sd, .ref mtr, .ref mwo, .ref mnx, .int jr])), (mrw, .inl (cI, 6, .inl (upd pw cr (nI p)))), (mrd, .inl (cI, 6, .inl pd))] H := hP
        have hD : va_D A [(M, .inr (9, [.int (nI 0), .ref mtx, .int (nI len), .int (nI pl), .int rt, .int fr, .int pr, .ref mod_, .int (nI n), .ref mne, .ref mro, .int (nI m), .int rrt, .int rfr, .int rpr, .ref mrod, .int (nI rn9), .ref mrne, .ref mrro, .int (nI rm9), .ref mrp, .ref mpg, .ref mbk, .int (nI ac), .ref mke, .ref mik, .int (nI cr), .ref mrw, .ref mrd, .long sd, .ref mtr, .ref mwo, .ref mnx, .int jr])), (mrw, .inl (cI, 6, .inl (upd pw cr (nI p)))), (mrd, .inl (cI, 6, .inl pd))] := hD
        refine lv_aload_n hx hb dX9_roll_52 rfl (lv_at hl 0 rfl) ?_
        refine z_get (ci := 9) (v := .ref mrd) Z zin9 hP 0 rfl rfl 28 (by decide) zm705 rfl rfl dX9_roll_53 ?_
        refine lv_aload_n hx hb dX9_roll_56 rfl (lv_at hl 0 rfl) ?_
        refine z_get (ci := 9) (v := .int (nI cr)) Z zin9 hP 0 rfl rfl 26 (by decide) zm703 rfl rfl dX9_roll_57 ?_
        refine lv_iload_n hx hb dX9_roll_60 rfl (lv_at hl 2 rfl) ?_
        refine z_iast (n := 6) (f := pd) (j := cr) (x := nI t) Z hP hD hS 2 rfl (by omega) (by decide) dX9_roll_61 (fun H locs hP hD hS => ?_)
        have hP : va_P D vwCl [(M, .inr (9, [.int (nI 0), .ref mtx, .int (nI len), .int (nI pl), .int rt, .int fr, .int pr, .ref mod_, .int (nI n), .ref mne, .ref mro, .int (nI m), .int rrt, .int rfr, .int rpr, .ref mrod, .int (nI rn9), .ref mrne, .ref mrro, .int (nI rm9), .ref mrp, .ref mpg, .ref mbk, .int (nI ac), .ref mke, .ref mik, .int (nI cr), .ref mrw, .ref mrd, .long sd, .ref mtr, .ref mwo, .ref mnx, .int jr])), (mrw, .inl (cI, 6, .inl (upd pw cr (nI p)))), (mrd, .inl (cI, 6, .inl (upd pd cr (nI t))))] H := hP
        have hD : va_D A [(M, .inr (9, [.int (nI 0), .ref mtx, .int (nI len), .int (nI pl), .int rt, .int fr, .int pr, .ref mod_, .int (nI n), .ref mne, .ref mro, .int (nI m), .int rrt, .int rfr, .int rpr, .ref mrod, .int (nI rn9), .ref mrne, .ref mrro, .int (nI rm9), .ref mrp, .ref mpg, .ref mbk, .int (nI ac), .ref mke, .ref mik, .int (nI cr), .ref mrw, .ref mrd, .long sd, .ref mtr, .ref mwo, .ref mnx, .int jr])), (mrw, .inl (cI, 6, .inl (upd pw cr (nI p)))), (mrd, .inl (cI, 6, .inl (upd pd cr (nI t))))] := hD
        refine lv_aload_n hx hb dX9_roll_62 rfl (lv_at hl 0 rfl) ?_
        refine lv_dup hx hb dX9_roll_63 rfl ?_
        refine z_get (ci := 9) (v := .int (nI cr)) Z zin9 hP 0 rfl rfl 26 (by decide) zm703 rfl rfl dX9_roll_64 ?_
        refine lv_iconst (v := nI 1) hx hb dX9_roll_67 (by decide) ?_
        refine lv_iadd hx hb dX9_roll_68 ?_
        refine z_top (y := nI (cr + 1)) (z_add _ _) ?_
        refine z_put (ci := 9) (v := .int (nI (cr + 1))) Z zin9 tyX9 tyX9_ok nmX9 hP hD hS 0 rfl rfl 26 (by decide) zm703 rfl rfl rfl rfl (Nat.le_of_ble_eq_true rfl) dX9_roll_69 (fun H locs hP hD hS => ?_)
        have hP : va_P D vwCl [(M, .inr (9, [.int (nI 0), .ref mtx, .int (nI len), .int (nI pl), .int rt, .int fr, .int pr, .ref mod_, .int (nI n), .ref mne, .ref mro, .int (nI m), .int rrt, .int rfr, .int rpr, .ref mrod, .int (nI rn9), .ref mrne, .ref mrro, .int (nI rm9), .ref mrp, .ref mpg, .ref mbk, .int (nI ac), .ref mke, .ref mik, .int (nI (cr + 1)), .ref mrw, .ref mrd, .long sd, .ref mtr, .ref mwo, .ref mnx, .int jr])), (mrw, .inl (cI, 6, .inl (upd pw cr (nI p)))), (mrd, .inl (cI, 6, .inl (upd pd cr (nI t))))] H := hP
        have hD : va_D A [(M, .inr (9, [.int (nI 0), .ref mtx, .int (nI len), .int (nI pl), .int rt, .int fr, .int pr, .ref mod_, .int (nI n), .ref mne, .ref mro, .int (nI m), .int rrt, .int rfr, .int rpr, .ref mrod, .int (nI rn9), .ref mrne, .ref mrro, .int (nI rm9), .ref mrp, .ref mpg, .ref mbk, .int (nI ac), .ref mke, .ref mik, .int (nI (cr + 1)), .ref mrw, .ref mrd, .long sd, .ref mtr, .ref mwo, .ref mnx, .int jr])), (mrw, .inl (cI, 6, .inl (upd pw cr (nI p)))), (mrd, .inl (cI, 6, .inl (upd pd cr (nI t))))] := hD
        refine lv_aload_n hx hb dX9_roll_72 rfl (lv_at hl 0 rfl) ?_
        refine z_get (ci := 9) (v := .int (nI (cr + 1))) Z zin9 hP 0 rfl rfl 26 (by decide) zm703 rfl rfl dX9_roll_73 ?_
        have e_8 : nI (cr + 1) = nI (zPa n (nI p) (fun p => zRa 0 99 (nI t) (fun t => if cr < 6 then cr + 1 else cr) cr) cr) := by first | rw [zPa_n (by assumption)] | (rw [zPa_y hp hn]; first | rw [zRa_n hrgn] | (rw [zRa_y ht0 ht (by decide)]; first | rw [if_pos (by omega)] | rw [if_neg (by omega)])) | rfl
        have hP : va_P D vwCl [(M, .inr (9, [.int (nI 0), .ref mtx, .int (nI len), .int (nI pl), .int rt, .int fr, .int pr, .ref mod_, .int (nI n), .ref mne, .ref mro, .int (nI m), .int rrt, .int rfr, .int rpr, .ref mrod, .int (nI rn9), .ref mrne, .ref mrro, .int (nI rm9), .ref mrp, .ref mpg, .ref mbk, .int (nI ac), .ref mke, .ref mik, .int (nI (zPa n (nI p) (fun p => zRa 0 99 (nI t) (fun t => if cr < 6 then cr + 1 else cr) cr) cr)), .ref mrw, .ref mrd, .long sd, .ref mtr, .ref mwo, .ref mnx, .int jr])), (mrw, .inl (cI, 6, .inl (upd pw cr (nI p)))), (mrd, .inl (cI, 6, .inl (upd pd cr (nI t))))] H := Eq.subst (motive := fun zz_ => va_P D vwCl [(M, .inr (9, [.int (nI 0), .ref mtx, .int (nI len), .int (nI pl), .int rt, .int fr, .int pr, .ref mod_, .int (nI n), .ref mne, .ref mro, .int (nI m), .int rrt, .int rfr, .int rpr, .ref mrod, .int (nI rn9), .ref mrne, .ref mrro, .int (nI rm9), .ref mrp, .ref mpg, .ref mbk, .int (nI ac), .ref mke, .ref mik, .int zz_, .ref mrw, .ref mrd, .long sd, .ref mtr, .ref mwo, .ref mnx, .int jr])), (mrw, .inl (cI, 6, .inl (upd pw cr (nI p)))), (mrd, .inl (cI, 6, .inl (upd pd cr (nI t))))] H) e_8 hP
        have e_9 : upd pw cr (nI p) = (zPa n (nI p) (fun p => zRa 0 99 (nI t) (fun t => if cr < 6 then upd pw cr (nI p) else pw) pw) pw) := by first | rw [zPa_n (by assumption)] | (rw [zPa_y hp hn]; first | rw [zRa_n hrgn] | (rw [zRa_y ht0 ht (by decide)]; first | rw [if_pos (by omega)] | rw [if_neg (by omega)])) | rfl
        have hP : va_P D vwCl [(M, .inr (9, [.int (nI 0), .ref mtx, .int (nI len), .int (nI pl), .int rt, .int fr, .int pr, .ref mod_, .int (nI n), .ref mne, .ref mro, .int (nI m), .int rrt, .int rfr, .int rpr, .ref mrod, .int (nI rn9), .ref mrne, .ref mrro, .int (nI rm9), .ref mrp, .ref mpg, .ref mbk, .int (nI ac), .ref mke, .ref mik, .int (nI (zPa n (nI p) (fun p => zRa 0 99 (nI t) (fun t => if cr < 6 then cr + 1 else cr) cr) cr)), .ref mrw, .ref mrd, .long sd, .ref mtr, .ref mwo, .ref mnx, .int jr])), (mrw, .inl (cI, 6, .inl (zPa n (nI p) (fun p => zRa 0 99 (nI t) (fun t => if cr < 6 then upd pw cr (nI p) else pw) pw) pw))), (mrd, .inl (cI, 6, .inl (upd pd cr (nI t))))] H := Eq.subst (motive := fun zz_ => va_P D vwCl [(M, .inr (9, [.int (nI 0), .ref mtx, .int (nI len), .int (nI pl), .int rt, .int fr, .int pr, .ref mod_, .int (nI n), .ref mne, .ref mro, .int (nI m), .int rrt, .int rfr, .int rpr, .ref mrod, .int (nI rn9), .ref mrne, .ref mrro, .int (nI rm9), .ref mrp, .ref mpg, .ref mbk, .int (nI ac), .ref mke, .ref mik, .int (nI (zPa n (nI p) (fun p => zRa 0 99 (nI t) (fun t => if cr < 6 then cr + 1 else cr) cr) cr)), .ref mrw, .ref mrd, .long sd, .ref mtr, .ref mwo, .ref mnx, .int jr])), (mrw, .inl (cI, 6, .inl zz_)), (mrd, .inl (cI, 6, .inl (upd pd cr (nI t))))] H) e_9 hP
        have e_10 : upd pd cr (nI t) = (zPa n (nI p) (fun p => zRa 0 99 (nI t) (fun t => if cr < 6 then upd pd cr (nI t) else pd) pd) pd) := by first | rw [zPa_n (by assumption)] | (rw [zPa_y hp hn]; first | rw [zRa_n hrgn] | (rw [zRa_y ht0 ht (by decide)]; first | rw [if_pos (by omega)] | rw [if_neg (by omega)])) | rfl
        have hP : va_P D vwCl [(M, .inr (9, [.int (nI 0), .ref mtx, .int (nI len), .int (nI pl), .int rt, .int fr, .int pr, .ref mod_, .int (nI n), .ref mne, .ref mro, .int (nI m), .int rrt, .int rfr, .int rpr, .ref mrod, .int (nI rn9), .ref mrne, .ref mrro, .int (nI rm9), .ref mrp, .ref mpg, .ref mbk, .int (nI ac), .ref mke, .ref mik, .int (nI (zPa n (nI p) (fun p => zRa 0 99 (nI t) (fun t => if cr < 6 then cr + 1 else cr) cr) cr)), .ref mrw, .ref mrd, .long sd, .ref mtr, .ref mwo, .ref mnx, .int jr])), (mrw, .inl (cI, 6, .inl (zPa n (nI p) (fun p => zRa 0 99 (nI t) (fun t => if cr < 6 then upd pw cr (nI p) else pw) pw) pw))), (mrd, .inl (cI, 6, .inl (zPa n (nI p) (fun p => zRa 0 99 (nI t) (fun t => if cr < 6 then upd pd cr (nI t) else pd) pd) pd)))] H := Eq.subst (motive := fun zz_ => va_P D vwCl [(M, .inr (9, [.int (nI 0), .ref mtx, .int (nI len), .int (nI pl), .int rt, .int fr, .int pr, .ref mod_, .int (nI n), .ref mne, .ref mro, .int (nI m), .int rrt, .int rfr, .int rpr, .ref mrod, .int (nI rn9), .ref mrne, .ref mrro, .int (nI rm9), .ref mrp, .ref mpg, .ref mbk, .int (nI ac), .ref mke, .ref mik, .int (nI (zPa n (nI p) (fun p => zRa 0 99 (nI t) (fun t => if cr < 6 then cr + 1 else cr) cr) cr)), .ref mrw, .ref mrd, .long sd, .ref mtr, .ref mwo, .ref mnx, .int jr])), (mrw, .inl (cI, 6, .inl (zPa n (nI p) (fun p => zRa 0 99 (nI t) (fun t => if cr < 6 then upd pw cr (nI p) else pw) pw) pw))), (mrd, .inl (cI, 6, .inl zz_))] H) e_10 hP
        have hD : va_D A [(M, .inr (9, [.int (nI 0), .ref mtx, .int (nI len), .int (nI pl), .int rt, .int fr, .int pr, .ref mod_, .int (nI n), .ref mne, .ref mro, .int (nI m), .int rrt, .int rfr, .int rpr, .ref mrod, .int (nI rn9), .ref mrne, .ref mrro, .int (nI rm9), .ref mrp, .ref mpg, .ref mbk, .int (nI ac), .ref mke, .ref mik, .int (nI (zPa n (nI p) (fun p => zRa 0 99 (nI t) (fun t => if cr < 6 then cr + 1 else cr) cr) cr)), .ref mrw, .ref mrd, .long sd, .ref mtr, .ref mwo, .ref mnx, .int jr])), (mrw, .inl (cI, 6, .inl (zPa n (nI p) (fun p => zRa 0 99 (nI t) (fun t => if cr < 6 then upd pw cr (nI p) else pw) pw) pw))), (mrd, .inl (cI, 6, .inl (zPa n (nI p) (fun p => zRa 0 99 (nI t) (fun t => if cr < 6 then upd pd cr (nI t) else pd) pd) pd)))] := zD_of hD rfl
        exact z_iret Z () (by first | rw [zPa_n (by assumption)] | (rw [zPa_y hp hn]; first | rw [zRa_n hrgn] | (rw [zRa_y ht0 ht (by decide)]; first | rw [if_pos (by omega)] | rw [if_neg (by omega)])) | rfl) hP hS dX9_roll_76
      · have c_7 := zeq (i := cr) (j := 6) (by omega) (by decide) c_7
        refine lv_bipush (v := -4) hx hb dX9_roll_39 (by decide) ?_
        have e_11 : nI cr = nI (zPa n (nI p) (fun p => zRa 0 99 (nI t) (fun t => if cr < 6 then cr + 1 else cr) cr) cr) := by first | rw [zPa_n (by assumption)] | (rw [zPa_y hp hn]; first | rw [zRa_n hrgn] | (rw [zRa_y ht0 ht (by decide)]; first | rw [if_pos (by omega)] | rw [if_neg (by omega)])) | rfl
        have hP : va_P D vwCl [(M, .inr (9, [.int (nI 0), .ref mtx, .int (nI len), .int (nI pl), .int rt, .int fr, .int pr, .ref mod_, .int (nI n), .ref mne, .ref mro, .int (nI m), .int rrt, .int rfr, .int rpr, .ref mrod, .int (nI rn9), .ref mrne, .ref mrro, .int (nI rm9), .ref mrp, .ref mpg, .ref mbk, .int (nI ac), .ref mke, .ref mik, .int (nI (zPa n (nI p) (fun p => zRa 0 99 (nI t) (fun t => if cr < 6 then cr + 1 else cr) cr) cr)), .ref mrw, .ref mrd, .long sd, .ref mtr, .ref mwo, .ref mnx, .int jr])), (mrw, .inl (cI, 6, .inl pw)), (mrd, .inl (cI, 6, .inl pd))] H := Eq.subst (motive := fun zz_ => va_P D vwCl [(M, .inr (9, [.int (nI 0), .ref mtx, .int (nI len), .int (nI pl), .int rt, .int fr, .int pr, .ref mod_, .int (nI n), .ref mne, .ref mro, .int (nI m), .int rrt, .int rfr, .int rpr, .ref mrod, .int (nI rn9), .ref mrne, .ref mrro, .int (nI rm9), .ref mrp, .ref mpg, .ref mbk, .int (nI ac), .ref mke, .ref mik, .int zz_, .ref mrw, .ref mrd, .long sd, .ref mtr, .ref mwo, .ref mnx, .int jr])), (mrw, .inl (cI, 6, .inl pw)), (mrd, .inl (cI, 6, .inl pd))] H) e_11 hP
        have e_12 : pw = (zPa n (nI p) (fun p => zRa 0 99 (nI t) (fun t => if cr < 6 then upd pw cr (nI p) else pw) pw) pw) := by first | rw [zPa_n (by assumption)] | (rw [zPa_y hp hn]; first | rw [zRa_n hrgn] | (rw [zRa_y ht0 ht (by decide)]; first | rw [if_pos (by omega)] | rw [if_neg (by omega)])) | rfl
        have hP : va_P D vwCl [(M, .inr (9, [.int (nI 0), .ref mtx, .int (nI len), .int (nI pl), .int rt, .int fr, .int pr, .ref mod_, .int (nI n), .ref mne, .ref mro, .int (nI m), .int rrt, .int rfr, .int rpr, .ref mrod, .int (nI rn9), .ref mrne, .ref mrro, .int (nI rm9), .ref mrp, .ref mpg, .ref mbk, .int (nI ac), .ref mke, .ref mik, .int (nI (zPa n (nI p) (fun p => zRa 0 99 (nI t) (fun t => if cr < 6 then cr + 1 else cr) cr) cr)), .ref mrw, .ref mrd, .long sd, .ref mtr, .ref mwo, .ref mnx, .int jr])), (mrw, .inl (cI, 6, .inl (zPa n (nI p) (fun p => zRa 0 99 (nI t) (fun t => if cr < 6 then upd pw cr (nI p) else pw) pw) pw))), (mrd, .inl (cI, 6, .inl pd))] H := Eq.subst (motive := fun zz_ => va_P D vwCl [(M, .inr (9, [.int (nI 0), .ref mtx, .int (nI len), .int (nI pl), .int rt, .int fr, .int pr, .ref mod_, .int (nI n), .ref mne, .ref mro, .int (nI m), .int rrt, .int rfr, .int rpr, .ref mrod, .int (nI rn9), .ref mrne, .ref mrro, .int (nI rm9), .ref mrp, .ref mpg, .ref mbk, .int (nI ac), .ref mke, .ref mik, .int (nI (zPa n (nI p) (fun p => zRa 0 99 (nI t) (fun t => if cr < 6 then cr + 1 else cr) cr) cr)), .ref mrw, .ref mrd, .long sd, .ref mtr, .ref mwo, .ref mnx, .int jr])), (mrw, .inl (cI, 6, .inl zz_)), (mrd, .inl (cI, 6, .inl pd))] H) e_12 hP
        have e_13 : pd = (zPa n (nI p) (fun p => zRa 0 99 (nI t) (fun t => if cr < 6 then upd pd cr (nI t) else pd) pd) pd) := by first | rw [zPa_n (by assumption)] | (rw [zPa_y hp hn]; first | rw [zRa_n hrgn] | (rw [zRa_y ht0 ht (by decide)]; first | rw [if_pos (by omega)] | rw [if_neg (by omega)])) | rfl
        have hP : va_P D vwCl [(M, .inr (9, [.int (nI 0), .ref mtx, .int (nI len), .int (nI pl), .int rt, .int fr, .int pr, .ref mod_, .int (nI n), .ref mne, .ref mro, .int (nI m), .int rrt, .int rfr, .int rpr, .ref mrod, .int (nI rn9), .ref mrne, .ref mrro, .int (nI rm9), .ref mrp, .ref mpg, .ref mbk, .int (nI ac), .ref mke, .ref mik, .int (nI (zPa n (nI p) (fun p => zRa 0 99 (nI t) (fun t => if cr < 6 then cr + 1 else cr) cr) cr)), .ref mrw, .ref mrd, .long sd, .ref mtr, .ref mwo, .ref mnx, .int jr])), (mrw, .inl (cI, 6, .inl (zPa n (nI p) (fun p => zRa 0 99 (nI t) (fun t => if cr < 6 then upd pw cr (nI p) else pw) pw) pw))), (mrd, .inl (cI, 6, .inl (zPa n (nI p) (fun p => zRa 0 99 (nI t) (fun t => if cr < 6 then upd pd cr (nI t) else pd) pd) pd)))] H := Eq.subst (motive := fun zz_ => va_P D vwCl [(M, .inr (9, [.int (nI 0), .ref mtx, .int (nI len), .int (nI pl), .int rt, .int fr, .int pr, .ref mod_, .int (nI n), .ref mne, .ref mro, .int (nI m), .int rrt, .int rfr, .int rpr, .ref mrod, .int (nI rn9), .ref mrne, .ref mrro, .int (nI rm9), .ref mrp, .ref mpg, .ref mbk, .int (nI ac), .ref mke, .ref mik, .int (nI (zPa n (nI p) (fun p => zRa 0 99 (nI t) (fun t => if cr < 6 then cr + 1 else cr) cr) cr)), .ref mrw, .ref mrd, .long sd, .ref mtr, .ref mwo, .ref mnx, .int jr])), (mrw, .inl (cI, 6, .inl (zPa n (nI p) (fun p => zRa 0 99 (nI t) (fun t => if cr < 6 then upd pw cr (nI p) else pw) pw) pw))), (mrd, .inl (cI, 6, .inl zz_))] H) e_13 hP
        have hD : va_D A [(M, .inr (9, [.int (nI 0), .ref mtx, .int (nI len), .int (nI pl), .int rt, .int fr, .int pr, .ref mod_, .int (nI n), .ref mne, .ref mro, .int (nI m), .int rrt, .int rfr, .int rpr, .ref mrod, .int (nI rn9), .ref mrne, .ref mrro, .int (nI rm9), .ref mrp, .ref mpg, .ref mbk, .int (nI ac), .ref mke, .ref mik, .int (nI (zPa n (nI p) (fun p => zRa 0 99 (nI t) (fun t => if cr < 6 then cr + 1 else cr) cr) cr)), .ref mrw, .ref mrd, .long sd, .ref mtr, .ref mwo, .ref mnx, .int jr])), (mrw, .inl (cI, 6, .inl (zPa n (nI p) (fun p => zRa 0 99 (nI t) (fun t => if cr < 6 then upd pw cr (nI p) else pw) pw) pw))), (mrd, .inl (cI, 6, .inl (zPa n (nI p) (fun p => zRa 0 99 (nI t) (fun t => if cr < 6 then upd pd cr (nI t) else pd) pd) pd)))] := zD_of hD rfl
        exact z_iret Z () (by first | rw [zPa_n (by assumption)] | (rw [zPa_y hp hn]; first | rw [zRa_n hrgn] | (rw [zRa_y ht0 ht (by decide)]; first | rw [if_pos (by omega)] | rw [if_neg (by omega)])) | rfl) hP hS dX9_roll_41
    · have c_6 := zb0 c_6
      have hrgn := fun q => c_6 ((zinr (x := x2) 0 99 rfl rfl).mpr q)
      refine lv_bipush (v := -2) hx hb dX9_roll_27 (by decide) ?_
      have e_14 : nI cr = nI (zPa n (nI p) (fun p => zRa 0 99 x2 (fun t => if cr < 6 then cr + 1 else cr) cr) cr) := by first | rw [zPa_n (by assumption)] | (rw [zPa_y hp hn]; first | rw [zRa_n hrgn] | (rw [zRa_y ht0 ht (by decide)]; first | rw [if_pos (by omega)] | rw [if_neg (by omega)])) | rfl
      have hP : va_P D vwCl [(M, .inr (9, [.int (nI 0), .ref mtx, .int (nI len), .int (nI pl), .int rt, .int fr, .int pr, .ref mod_, .int (nI n), .ref mne, .ref mro, .int (nI m), .int rrt, .int rfr, .int rpr, .ref mrod, .int (nI rn9), .ref mrne, .ref mrro, .int (nI rm9), .ref mrp, .ref mpg, .ref mbk, .int (nI ac), .ref mke, .ref mik, .int (nI (zPa n (nI p) (fun p => zRa 0 99 x2 (fun t => if cr < 6 then cr + 1 else cr) cr) cr)), .ref mrw, .ref mrd, .long sd, .ref mtr, .ref mwo, .ref mnx, .int jr])), (mrw, .inl (cI, 6, .inl pw)), (mrd, .inl (cI, 6, .inl pd))] H := Eq.subst (motive := fun zz_ => va_P D vwCl [(M, .inr (9, [.int (nI 0), .ref mtx, .int (nI len), .int (nI pl), .int rt, .int fr, .int pr, .ref mod_, .int (nI n), .ref mne, .ref mro, .int (nI m), .int rrt, .int rfr, .int rpr, .ref mrod, .int (nI rn9), .ref mrne, .ref mrro, .int (nI rm9), .ref mrp, .ref mpg, .ref mbk, .int (nI ac), .ref mke, .ref mik, .int zz_, .ref mrw, .ref mrd, .long sd, .ref mtr, .ref mwo, .ref mnx, .int jr])), (mrw, .inl (cI, 6, .inl pw)), (mrd, .inl (cI, 6, .inl pd))] H) e_14 hP
      have e_15 : pw = (zPa n (nI p) (fun p => zRa 0 99 x2 (fun t => if cr < 6 then upd pw cr (nI p) else pw) pw) pw) := by first | rw [zPa_n (by assumption)] | (rw [zPa_y hp hn]; first | rw [zRa_n hrgn] | (rw [zRa_y ht0 ht (by decide)]; first | rw [if_pos (by omega)] | rw [if_neg (by omega)])) | rfl
      have hP : va_P D vwCl [(M, .inr (9, [.int (nI 0), .ref mtx, .int (nI len), .int (nI pl), .int rt, .int fr, .int pr, .ref mod_, .int (nI n), .ref mne, .ref mro, .int (nI m), .int rrt, .int rfr, .int rpr, .ref mrod, .int (nI rn9), .ref mrne, .ref mrro, .int (nI rm9), .ref mrp, .ref mpg, .ref mbk, .int (nI ac), .ref mke, .ref mik, .int (nI (zPa n (nI p) (fun p => zRa 0 99 x2 (fun t => if cr < 6 then cr + 1 else cr) cr) cr)), .ref mrw, .ref mrd, .long sd, .ref mtr, .ref mwo, .ref mnx, .int jr])), (mrw, .inl (cI, 6, .inl (zPa n (nI p) (fun p => zRa 0 99 x2 (fun t => if cr < 6 then upd pw cr (nI p) else pw) pw) pw))), (mrd, .inl (cI, 6, .inl pd))] H := Eq.subst (motive := fun zz_ => va_P D vwCl [(M, .inr (9, [.int (nI 0), .ref mtx, .int (nI len), .int (nI pl), .int rt, .int fr, .int pr, .ref mod_, .int (nI n), .ref mne, .ref mro, .int (nI m), .int rrt, .int rfr, .int rpr, .ref mrod, .int (nI rn9), .ref mrne, .ref mrro, .int (nI rm9), .ref mrp, .ref mpg, .ref mbk, .int (nI ac), .ref mke, .ref mik, .int (nI (zPa n (nI p) (fun p => zRa 0 99 x2 (fun t => if cr < 6 then cr + 1 else cr) cr) cr)), .ref mrw, .ref mrd, .long sd, .ref mtr, .ref mwo, .ref mnx, .int jr])), (mrw, .inl (cI, 6, .inl zz_)), (mrd, .inl (cI, 6, .inl pd))] H) e_15 hP
      have e_16 : pd = (zPa n (nI p) (fun p => zRa 0 99 x2 (fun t => if cr < 6 then upd pd cr (nI t) else pd) pd) pd) := by first | rw [zPa_n (by assumption)] | (rw [zPa_y hp hn]; first | rw [zRa_n hrgn] | (rw [zRa_y ht0 ht (by decide)]; first | rw [if_pos (by omega)] | rw [if_neg (by omega)])) | rfl
      have hP : va_P D vwCl [(M, .inr (9, [.int (nI 0), .ref mtx, .int (nI len), .int (nI pl), .int rt, .int fr, .int pr, .ref mod_, .int (nI n), .ref mne, .ref mro, .int (nI m), .int rrt, .int rfr, .int rpr, .ref mrod, .int (nI rn9), .ref mrne, .ref mrro, .int (nI rm9), .ref mrp, .ref mpg, .ref mbk, .int (nI ac), .ref mke, .ref mik, .int (nI (zPa n (nI p) (fun p => zRa 0 99 x2 (fun t => if cr < 6 then cr + 1 else cr) cr) cr)), .ref mrw, .ref mrd, .long sd, .ref mtr, .ref mwo, .ref mnx, .int jr])), (mrw, .inl (cI, 6, .inl (zPa n (nI p) (fun p => zRa 0 99 x2 (fun t => if cr < 6 then upd pw cr (nI p) else pw) pw) pw))), (mrd, .inl (cI, 6, .inl (zPa n (nI p) (fun p => zRa 0 99 x2 (fun t => if cr < 6 then upd pd cr (nI t) else pd) pd) pd)))] H := Eq.subst (motive := fun zz_ => va_P D vwCl [(M, .inr (9, [.int (nI 0), .ref mtx, .int (nI len), .int (nI pl), .int rt, .int fr, .int pr, .ref mod_, .int (nI n), .ref mne, .ref mro, .int (nI m), .int rrt, .int rfr, .int rpr, .ref mrod, .int (nI rn9), .ref mrne, .ref mrro, .int (nI rm9), .ref mrp, .ref mpg, .ref mbk, .int (nI ac), .ref mke, .ref mik, .int (nI (zPa n (nI p) (fun p => zRa 0 99 x2 (fun t => if cr < 6 then cr + 1 else cr) cr) cr)), .ref mrw, .ref mrd, .long sd, .ref mtr, .ref mwo, .ref mnx, .int jr])), (mrw, .inl (cI, 6, .inl (zPa n (nI p) (fun p => zRa 0 99 x2 (fun t => if cr < 6 then upd pw cr (nI p) else pw) pw) pw))), (mrd, .inl (cI, 6, .inl zz_))] H) e_16 hP
      have hD : va_D A [(M, .inr (9, [.int (nI 0), .ref mtx, .int (nI len), .int (nI pl), .int rt, .int fr, .int pr, .ref mod_, .int (nI n), .ref mne, .ref mro, .int (nI m), .int rrt, .int rfr, .int rpr, .ref mrod, .int (nI rn9), .ref mrne, .ref mrro, .int (nI rm9), .ref mrp, .ref mpg, .ref mbk, .int (nI ac), .ref mke, .ref mik, .int (nI (zPa n (nI p) (fun p => zRa 0 99 x2 (fun t => if cr < 6 then cr + 1 else cr) cr) cr)), .ref mrw, .ref mrd, .long sd, .ref mtr, .ref mwo, .ref mnx, .int jr])), (mrw, .inl (cI, 6, .inl (zPa n (nI p) (fun p => zRa 0 99 x2 (fun t => if cr < 6 then upd pw cr (nI p) else pw) pw) pw))), (mrd, .inl (cI, 6, .inl (zPa n (nI p) (fun p => zRa 0 99 x2 (fun t => if cr < 6 then upd pd cr (nI t) else pd) pd) pd)))] := zD_of hD rfl
      exact z_iret Z () (by first | rw [zPa_n (by assumption)] | (rw [zPa_y hp hn]; first | rw [zRa_n hrgn] | (rw [zRa_y ht0 ht (by decide)]; first | rw [if_pos (by omega)] | rw [if_neg (by omega)])) | rfl) hP hS dX9_roll_29
  · have c_3 := zb1 c_3
    refine lv_iconst (v := -1) hx hb dX9_roll_13 (by decide) ?_
    have e_17 : nI cr = nI (zPa n x1 (fun p => zRa 0 99 x2 (fun t => if cr < 6 then cr + 1 else cr) cr) cr) := by first | rw [zPa_n (by assumption)] | (rw [zPa_y hp hn]; first | rw [zRa_n hrgn] | (rw [zRa_y ht0 ht (by decide)]; first | rw [if_pos (by omega)] | rw [if_neg (by omega)])) | rfl
    have hP : va_P D vwCl [(M, .inr (9, [.int (nI 0), .ref mtx, .int (nI len), .int (nI pl), .int rt, .int fr, .int pr, .ref mod_, .int (nI n), .ref mne, .ref mro, .int (nI m), .int rrt, .int rfr, .int rpr, .ref mrod, .int (nI rn9), .ref mrne, .ref mrro, .int (nI rm9), .ref mrp, .ref mpg, .ref mbk, .int (nI ac), .ref mke, .ref mik, .int (nI (zPa n x1 (fun p => zRa 0 99 x2 (fun t => if cr < 6 then cr + 1 else cr) cr) cr)), .ref mrw, .ref mrd, .long sd, .ref mtr, .ref mwo, .ref mnx, .int jr])), (mrw, .inl (cI, 6, .inl pw)), (mrd, .inl (cI, 6, .inl pd))] H := Eq.subst (motive := fun zz_ => va_P D vwCl [(M, .inr (9, [.int (nI 0), .ref mtx, .int (nI len), .int (nI pl), .int rt, .int fr, .int pr, .ref mod_, .int (nI n), .ref mne, .ref mro, .int (nI m), .int rrt, .int rfr, .int rpr, .ref mrod, .int (nI rn9), .ref mrne, .ref mrro, .int (nI rm9), .ref mrp, .ref mpg, .ref mbk, .int (nI ac), .ref mke, .ref mik, .int zz_, .ref mrw, .ref mrd, .long sd, .ref mtr, .ref mwo, .ref mnx, .int jr])), (mrw, .inl (cI, 6, .inl pw)), (mrd, .inl (cI, 6, .inl pd))] H) e_17 hP
    have e_18 : pw = (zPa n x1 (fun p => zRa 0 99 x2 (fun t => if cr < 6 then upd pw cr (nI p) else pw) pw) pw) := by first | rw [zPa_n (by assumption)] | (rw [zPa_y hp hn]; first | rw [zRa_n hrgn] | (rw [zRa_y ht0 ht (by decide)]; first | rw [if_pos (by omega)] | rw [if_neg (by omega)])) | rfl
    have hP : va_P D vwCl [(M, .inr (9, [.int (nI 0), .ref mtx, .int (nI len), .int (nI pl), .int rt, .int fr, .int pr, .ref mod_, .int (nI n), .ref mne, .ref mro, .int (nI m), .int rrt, .int rfr, .int rpr, .ref mrod, .int (nI rn9), .ref mrne, .ref mrro, .int (nI rm9), .ref mrp, .ref mpg, .ref mbk, .int (nI ac), .ref mke, .ref mik, .int (nI (zPa n x1 (fun p => zRa 0 99 x2 (fun t => if cr < 6 then cr + 1 else cr) cr) cr)), .ref mrw, .ref mrd, .long sd, .ref mtr, .ref mwo, .ref mnx, .int jr])), (mrw, .inl (cI, 6, .inl (zPa n x1 (fun p => zRa 0 99 x2 (fun t => if cr < 6 then upd pw cr (nI p) else pw) pw) pw))), (mrd, .inl (cI, 6, .inl pd))] H := Eq.subst (motive := fun zz_ => va_P D vwCl [(M, .inr (9, [.int (nI 0), .ref mtx, .int (nI len), .int (nI pl), .int rt, .int fr, .int pr, .ref mod_, .int (nI n), .ref mne, .ref mro, .int (nI m), .int rrt, .int rfr, .int rpr, .ref mrod, .int (nI rn9), .ref mrne, .ref mrro, .int (nI rm9), .ref mrp, .ref mpg, .ref mbk, .int (nI ac), .ref mke, .ref mik, .int (nI (zPa n x1 (fun p => zRa 0 99 x2 (fun t => if cr < 6 then cr + 1 else cr) cr) cr)), .ref mrw, .ref mrd, .long sd, .ref mtr, .ref mwo, .ref mnx, .int jr])), (mrw, .inl (cI, 6, .inl zz_)), (mrd, .inl (cI, 6, .inl pd))] H) e_18 hP
    have e_19 : pd = (zPa n x1 (fun p => zRa 0 99 x2 (fun t => if cr < 6 then upd pd cr (nI t) else pd) pd) pd) := by first | rw [zPa_n (by assumption)] | (rw [zPa_y hp hn]; first | rw [zRa_n hrgn] | (rw [zRa_y ht0 ht (by decide)]; first | rw [if_pos (by omega)] | rw [if_neg (by omega)])) | rfl
    have hP : va_P D vwCl [(M, .inr (9, [.int (nI 0), .ref mtx, .int (nI len), .int (nI pl), .int rt, .int fr, .int pr, .ref mod_, .int (nI n), .ref mne, .ref mro, .int (nI m), .int rrt, .int rfr, .int rpr, .ref mrod, .int (nI rn9), .ref mrne, .ref mrro, .int (nI rm9), .ref mrp, .ref mpg, .ref mbk, .int (nI ac), .ref mke, .ref mik, .int (nI (zPa n x1 (fun p => zRa 0 99 x2 (fun t => if cr < 6 then cr + 1 else cr) cr) cr)), .ref mrw, .ref mrd, .long sd, .ref mtr, .ref mwo, .ref mnx, .int jr])), (mrw, .inl (cI, 6, .inl (zPa n x1 (fun p => zRa 0 99 x2 (fun t => if cr < 6 then upd pw cr (nI p) else pw) pw) pw))), (mrd, .inl (cI, 6, .inl (zPa n x1 (fun p => zRa 0 99 x2 (fun t => if cr < 6 then upd pd cr (nI t) else pd) pd) pd)))] H := Eq.subst (motive := fun zz_ => va_P D vwCl [(M, .inr (9, [.int (nI 0), .ref mtx, .int (nI len), .int (nI pl), .int rt, .int fr, .int pr, .ref mod_, .int (nI n), .ref mne, .ref mro, .int (nI m), .int rrt, .int rfr, .int rpr, .ref mrod, .int (nI rn9), .ref mrne, .ref mrro, .int (nI rm9), .ref mrp, .ref mpg, .ref mbk, .int (nI ac), .ref mke, .ref mik, .int (nI (zPa n x1 (fun p => zRa 0 99 x2 (fun t => if cr < 6 then cr + 1 else cr) cr) cr)), .ref mrw, .ref mrd, .long sd, .ref mtr, .ref mwo, .ref mnx, .int jr])), (mrw, .inl (cI, 6, .inl (zPa n x1 (fun p => zRa 0 99 x2 (fun t => if cr < 6 then upd pw cr (nI p) else pw) pw) pw))), (mrd, .inl (cI, 6, .inl zz_))] H) e_19 hP
    have hD : va_D A [(M, .inr (9, [.int (nI 0), .ref mtx, .int (nI len), .int (nI pl), .int rt, .int fr, .int pr, .ref mod_, .int (nI n), .ref mne, .ref mro, .int (nI m), .int rrt, .int rfr, .int rpr, .ref mrod, .int (nI rn9), .ref mrne, .ref mrro, .int (nI rm9), .ref mrp, .ref mpg, .ref mbk, .int (nI ac), .ref mke, .ref mik, .int (nI (zPa n x1 (fun p => zRa 0 99 x2 (fun t => if cr < 6 then cr + 1 else cr) cr) cr)), .ref mrw, .ref mrd, .long sd, .ref mtr, .ref mwo, .ref mnx, .int jr])), (mrw, .inl (cI, 6, .inl (zPa n x1 (fun p => zRa 0 99 x2 (fun t => if cr < 6 then upd pw cr (nI p) else pw) pw) pw))), (mrd, .inl (cI, 6, .inl (zPa n x1 (fun p => zRa 0 99 x2 (fun t => if cr < 6 then upd pd cr (nI t) else pd) pd) pd)))] := zD_of hD rfl
    exact z_iret Z () (by first | rw [zPa_n (by assumption)] | (rw [zPa_y hp hn]; first | rw [zRa_n hrgn] | (rw [zRa_y ht0 ht (by decide)]; first | rw [if_pos (by omega)] | rw [if_neg (by omega)])) | rfl) hP hS dX9_roll_14

theorem dX9_unroll_0 : decode cX9_unroll 0 = .ok (.aload_n 0, 1) := by decide +kernel
theorem dX9_unroll_1 : decode cX9_unroll 1 = .ok (.iconst 0, 1) := by decide +kernel
theorem dX9_unroll_2 : decode cX9_unroll 2 = .ok (.putfield 62, 3) := by decide +kernel
theorem dX9_unroll_5 : decode cX9_unroll 5 = .ok (.aload_n 0, 1) := by decide +kernel
theorem dX9_unroll_6 : decode cX9_unroll 6 = .ok (.getfield 144, 3) := by decide +kernel
theorem dX9_unroll_9 : decode cX9_unroll 9 = .ok (.istore_n 1, 1) := by decide +kernel
theorem dX9_unroll_10 : decode cX9_unroll 10 = .ok (.aload_n 0, 1) := by decide +kernel
theorem dX9_unroll_11 : decode cX9_unroll 11 = .ok (.iconst 0, 1) := by decide +kernel
theorem dX9_unroll_12 : decode cX9_unroll 12 = .ok (.putfield 144, 3) := by decide +kernel
theorem dX9_unroll_15 : decode cX9_unroll 15 = .ok (.iload_n 1, 1) := by decide +kernel
theorem dX9_unroll_16 : decode cX9_unroll 16 = .ok (.ireturn, 1) := by decide +kernel
theorem zd_X9_unroll : yX9_unroll.cls ≠ "java/lang/invoke/MethodHandle" ∧ yX9_unroll.cls ≠ "java/lang/invoke/VarHandle" ∧ (parseMethodDescriptor yX9_unroll.desc).map (fun d => d.parameters.length) = some 0 := by decide +kernel
set_option maxHeartbeats 4000000 in
set_option maxRecDepth 100000 in
theorem zc_X9_unroll (l : Launch) (D : va_G) (cI cZ : ClassId) (M : Nat) (th : Int32) (mtx : Nat) (len : Nat) (pl : Nat) (rt : Int32) (fr : Int32) (pr : Int32) (mod_ : Nat) (n : Nat) (mne : Nat) (mro : Nat) (m : Nat) (rrt : Int32) (rfr : Int32) (rpr : Int32) (mrod : Nat) (rn9 : Nat) (mrne : Nat) (mrro : Nat) (rm9 : Nat) (mrp : Nat) (mpg : Nat) (mbk : Nat) (ac : Nat) (mke : Nat) (mik : Nat) (cr : Nat) (mrw : Nat) (mrd : Nat) (sd : Int64) (mtr : Nat) (mwo : Nat) (mnx : Nat) (jr : Int32) : zI l yX9_unroll cX9_unroll 2 .int 0 0 D cI cZ [.ref M] [(M, .inr (9, [.int th, .ref mtx, .int (nI len), .int (nI pl), .int rt, .int fr, .int pr, .ref mod_, .int (nI n), .ref mne, .ref mro, .int (nI m), .int rrt, .int rfr, .int rpr, .ref mrod, .int (nI rn9), .ref mrne, .ref mrro, .int (nI rm9), .ref mrp, .ref mpg, .ref mbk, .int (nI ac), .ref mke, .ref mik, .int (nI cr), .ref mrw, .ref mrd, .long sd, .ref mtr, .ref mwo, .ref mnx, .int jr]))] (fun (r : Int32) (u : Unit) => r = nI cr) (fun (u : Unit) => [(M, .inr (9, [.int (nI 0), .ref mtx, .int (nI len), .int (nI pl), .int rt, .int fr, .int pr, .ref mod_, .int (nI n), .ref mne, .ref mro, .int (nI m), .int rrt, .int rfr, .int rpr, .ref mrod, .int (nI rn9), .ref mrne, .ref mrro, .int (nI rm9), .ref mrp, .ref mpg, .ref mbk, .int (nI ac), .ref mke, .ref mik, .int (nI 0), .ref mrw, .ref mrd, .long sd, .ref mtr, .ref mwo, .ref mnx, .int jr]))]) := by
  refine zI_of (by decide) (Nat.le_of_ble_eq_true rfl) ?_
  intro pP eE sS mM aA bB mT cC A ls Z hP hD hS hl
  have hx := Z.1
  have hb := Z.2.1
  have hown := Z.2.2.2.2.2.1
  have hts := Z.2.2.2.2.1
  have Z : zAt pP sS mM aA mT cC D cI cZ A "SurpriseTaxModel" cX9_unroll 2 (some .int) := Z
  have hl : lv_has ls 2 [(0, .ref M)] := hl
  obtain ⟨H, hH⟩ : ∃ H, H = sS.heap := ⟨_, rfl⟩
  have hP : va_P D vwCl [(M, .inr (9, [.int th, .ref mtx, .int (nI len), .int (nI pl), .int rt, .int fr, .int pr, .ref mod_, .int (nI n), .ref mne, .ref mro, .int (nI m), .int rrt, .int rfr, .int rpr, .ref mrod, .int (nI rn9), .ref mrne, .ref mrro, .int (nI rm9), .ref mrp, .ref mpg, .ref mbk, .int (nI ac), .ref mke, .ref mik, .int (nI cr), .ref mrw, .ref mrd, .long sd, .ref mtr, .ref mwo, .ref mnx, .int jr]))] H := by rw [hH]; exact hP
  have hS : va_S A sS.heap H [] := by rw [hH]; exact hS
  rw [← hH]
  clear hH
  obtain ⟨locs, hlo⟩ : ∃ q : List Loc, q = [] := ⟨_, rfl⟩
  rw [← hlo] at hS ⊢
  clear hlo
  refine lv_aload_n hx hb dX9_unroll_0 rfl (lv_at hl 0 rfl) ?_
  refine lv_iconst (v := nI 0) hx hb dX9_unroll_1 (by decide) ?_
  refine z_put (ci := 9) (v := .int (nI 0)) Z zin9 tyX9 tyX9_ok nmX9 hP hD hS 0 rfl rfl 0 (by decide) zm677 rfl rfl rfl rfl (Nat.le_of_ble_eq_true rfl) dX9_unroll_2 (fun H locs hP hD hS => ?_)
  have hP : va_P D vwCl [(M, .inr (9, [.int (nI 0), .ref mtx, .int (nI len), .int (nI pl), .int rt, .int fr, .int pr, .ref mod_, .int (nI n), .ref mne, .ref mro, .int (nI m), .int rrt, .int rfr, .int rpr, .ref mrod, .int (nI rn9), .ref mrne, .ref mrro, .int (nI rm9), .ref mrp, .ref mpg, .ref mbk, .int (nI ac), .ref mke, .ref mik, .int (nI cr), .ref mrw, .ref mrd, .long sd, .ref mtr, .ref mwo, .ref mnx, .int jr]))] H := hP
  have hD : va_D A [(M, .inr (9, [.int (nI 0), .ref mtx, .int (nI len), .int (nI pl), .int rt, .int fr, .int pr, .ref mod_, .int (nI n), .ref mne, .ref mro, .int (nI m), .int rrt, .int rfr, .int rpr, .ref mrod, .int (nI rn9), .ref mrne, .ref mrro, .int (nI rm9), .ref mrp, .ref mpg, .ref mbk, .int (nI ac), .ref mke, .ref mik, .int (nI cr), .ref mrw, .ref mrd, .long sd, .ref mtr, .ref mwo, .ref mnx, .int jr]))] := hD
  refine lv_aload_n hx hb dX9_unroll_5 rfl (lv_at hl 0 rfl) ?_
  refine z_get (ci := 9) (v := .int (nI cr)) Z zin9 hP 0 rfl rfl 26 (by decide) zm703 rfl rfl dX9_unroll_6 ?_
  refine lv_istore_n (lv' := [(1, .int (nI cr)), (0, .ref M)]) hx hb dX9_unroll_9 rfl hl (by decide) rfl (fun ls hl => ?_)
  refine lv_aload_n hx hb dX9_unroll_10 rfl (lv_at hl 1 rfl) ?_
  refine lv_iconst (v := nI 0) hx hb dX9_unroll_11 (by decide) ?_
  refine z_put (ci := 9) (v := .int (nI 0)) Z zin9 tyX9 tyX9_ok nmX9 hP hD hS 0 rfl rfl 26 (by decide) zm703 rfl rfl rfl rfl (Nat.le_of_ble_eq_true rfl) dX9_unroll_12 (fun H locs hP hD hS => ?_)
  have hP : va_P D vwCl [(M, .inr (9, [.int (nI 0), .ref mtx, .int (nI len), .int (nI pl), .int rt, .int fr, .int pr, .ref mod_, .int (nI n), .ref mne, .ref mro, .int (nI m), .int rrt, .int rfr, .int rpr, .ref mrod, .int (nI rn9), .ref mrne, .ref mrro, .int (nI rm9), .ref mrp, .ref mpg, .ref mbk, .int (nI ac), .ref mke, .ref mik, .int (nI 0), .ref mrw, .ref mrd, .long sd, .ref mtr, .ref mwo, .ref mnx, .int jr]))] H := hP
  have hD : va_D A [(M, .inr (9, [.int (nI 0), .ref mtx, .int (nI len), .int (nI pl), .int rt, .int fr, .int pr, .ref mod_, .int (nI n), .ref mne, .ref mro, .int (nI m), .int rrt, .int rfr, .int rpr, .ref mrod, .int (nI rn9), .ref mrne, .ref mrro, .int (nI rm9), .ref mrp, .ref mpg, .ref mbk, .int (nI ac), .ref mke, .ref mik, .int (nI 0), .ref mrw, .ref mrd, .long sd, .ref mtr, .ref mwo, .ref mnx, .int jr]))] := hD
  refine lv_iload_n hx hb dX9_unroll_15 rfl (lv_at hl 0 rfl) ?_
  exact z_iret Z () rfl hP hS dX9_unroll_16

theorem dX9_seed_0 : decode cX9_seed 0 = .ok (.aload_n 0, 1) := by decide +kernel
theorem dX9_seed_1 : decode cX9_seed 1 = .ok (.iconst 0, 1) := by decide +kernel
theorem dX9_seed_2 : decode cX9_seed 2 = .ok (.putfield 62, 3) := by decide +kernel
theorem dX9_seed_5 : decode cX9_seed 5 = .ok (.aload_n 0, 1) := by decide +kernel
theorem dX9_seed_6 : decode cX9_seed 6 = .ok (.getfield 226, 3) := by decide +kernel
theorem dX9_seed_9 : decode cX9_seed 9 = .ok (.lstore_n 3, 1) := by decide +kernel
theorem dX9_seed_10 : decode cX9_seed 10 = .ok (.aload_n 0, 1) := by decide +kernel
theorem dX9_seed_11 : decode cX9_seed 11 = .ok (.lload_n 1, 1) := by decide +kernel
theorem dX9_seed_12 : decode cX9_seed 12 = .ok (.putfield 226, 3) := by decide +kernel
theorem dX9_seed_15 : decode cX9_seed 15 = .ok (.lload_n 3, 1) := by decide +kernel
theorem dX9_seed_16 : decode cX9_seed 16 = .ok (.lreturn, 1) := by decide +kernel
theorem zd_X9_seed : yX9_seed.cls ≠ "java/lang/invoke/MethodHandle" ∧ yX9_seed.cls ≠ "java/lang/invoke/VarHandle" ∧ (parseMethodDescriptor yX9_seed.desc).map (fun d => d.parameters.length) = some 1 := by decide +kernel
set_option maxHeartbeats 4000000 in
set_option maxRecDepth 100000 in
theorem zc_X9_seed (l : Launch) (D : va_G) (cI cZ : ClassId) (M : Nat) (th : Int32) (mtx : Nat) (len : Nat) (pl : Nat) (rt : Int32) (fr : Int32) (pr : Int32) (mod_ : Nat) (n : Nat) (mne : Nat) (mro : Nat) (m : Nat) (rrt : Int32) (rfr : Int32) (rpr : Int32) (mrod : Nat) (rn9 : Nat) (mrne : Nat) (mrro : Nat) (rm9 : Nat) (mrp : Nat) (mpg : Nat) (mbk : Nat) (ac : Nat) (mke : Nat) (mik : Nat) (cr : Nat) (mrw : Nat) (mrd : Nat) (sd : Int64) (mtr : Nat) (mwo : Nat) (mnx : Nat) (jr : Int32) (v1 : Int64) : zL l yX9_seed cX9_seed 5 .long 0 0 D cI cZ [.ref M, .long v1] [(M, .inr (9, [.int th, .ref mtx, .int (nI len), .int (nI pl), .int rt, .int fr, .int pr, .ref mod_, .int (nI n), .ref mne, .ref mro, .int (nI m), .int rrt, .int rfr, .int rpr, .ref mrod, .int (nI rn9), .ref mrne, .ref mrro, .int (nI rm9), .ref mrp, .ref mpg, .ref mbk, .int (nI ac), .ref mke, .ref mik, .int (nI cr), .ref mrw, .ref mrd, .long sd, .ref mtr, .ref mwo, .ref mnx, .int jr]))] (fun (r : Int64) (u : Unit) => r = sd) (fun (u : Unit) => [(M, .inr (9, [.int (nI 0), .ref mtx, .int (nI len), .int (nI pl), .int rt, .int fr, .int pr, .ref mod_, .int (nI n), .ref mne, .ref mro, .int (nI m), .int rrt, .int rfr, .int rpr, .ref mrod, .int (nI rn9), .ref mrne, .ref mrro, .int (nI rm9), .ref mrp, .ref mpg, .ref mbk, .int (nI ac), .ref mke, .ref mik, .int (nI cr), .ref mrw, .ref mrd, .long v1, .ref mtr, .ref mwo, .ref mnx, .int jr]))]) := by
  refine zL_of (by decide) (Nat.le_of_ble_eq_true rfl) ?_
  intro pP eE sS mM aA bB mT cC A ls Z hP hD hS hl
  have hx := Z.1
  have hb := Z.2.1
  have hown := Z.2.2.2.2.2.1
  have hts := Z.2.2.2.2.1
  have Z : zAt pP sS mM aA mT cC D cI cZ A "SurpriseTaxModel" cX9_seed 5 (some .long) := Z
  have hl : lv_has ls 5 [(0, .ref M), (1, .long v1)] := hl
  obtain ⟨H, hH⟩ : ∃ H, H = sS.heap := ⟨_, rfl⟩
  have hP : va_P D vwCl [(M, .inr (9, [.int th, .ref mtx, .int (nI len), .int (nI pl), .int rt, .int fr, .int pr, .ref mod_, .int (nI n), .ref mne, .ref mro, .int (nI m), .int rrt, .int rfr, .int rpr, .ref mrod, .int (nI rn9), .ref mrne, .ref mrro, .int (nI rm9), .ref mrp, .ref mpg, .ref mbk, .int (nI ac), .ref mke, .ref mik, .int (nI cr), .ref mrw, .ref mrd, .long sd, .ref mtr, .ref mwo, .ref mnx, .int jr]))] H := by rw [hH]; exact hP
  have hS : va_S A sS.heap H [] := by rw [hH]; exact hS
  rw [← hH]
  clear hH
  obtain ⟨locs, hlo⟩ : ∃ q : List Loc, q = [] := ⟨_, rfl⟩
  rw [← hlo] at hS ⊢
  clear hlo
  refine lv_aload_n hx hb dX9_seed_0 rfl (lv_at hl 0 rfl) ?_
  refine lv_iconst (v := nI 0) hx hb dX9_seed_1 (by decide) ?_
  refine z_put (ci := 9) (v := .int (nI 0)) Z zin9 tyX9 tyX9_ok nmX9 hP hD hS 0 rfl rfl 0 (by decide) zm677 rfl rfl rfl rfl (Nat.le_of_ble_eq_true rfl) dX9_seed_2 (fun H locs hP hD hS => ?_)
  have hP : va_P D vwCl [(M, .inr (9, [.int (nI 0), .ref mtx, .int (nI len), .int (nI pl), .int rt, .int fr, .int pr, .ref mod_, .int (nI n), .ref mne, .ref mro, .int (nI m), .int rrt, .int rfr, .int rpr, .ref mrod, .int (nI rn9), .ref mrne, .ref mrro, .int (nI rm9), .ref mrp, .ref mpg, .ref mbk, .int (nI ac), .ref mke, .ref mik, .int (nI cr), .ref mrw, .ref mrd, .long sd, .ref mtr, .ref mwo, .ref mnx, .int jr]))] H := hP
  have hD : va_D A [(M, .inr (9, [.int (nI 0), .ref mtx, .int (nI len), .int (nI pl), .int rt, .int fr, .int pr, .ref mod_, .int (nI n), .ref mne, .ref mro, .int (nI m), .int rrt, .int rfr, .int rpr, .ref mrod, .int (nI rn9), .ref mrne, .ref mrro, .int (nI rm9), .ref mrp, .ref mpg, .ref mbk, .int (nI ac), .ref mke, .ref mik, .int (nI cr), .ref mrw, .ref mrd, .long sd, .ref mtr, .ref mwo, .ref mnx, .int jr]))] := hD
  refine lv_aload_n hx hb dX9_seed_5 rfl (lv_at hl 0 rfl) ?_
  refine z_get (ci := 9) (v := .long sd) Z zin9 hP 0 rfl rfl 29 (by decide) zm706 rfl rfl dX9_seed_6 ?_
  refine lv_lstore_n (lv' := [(3, .long sd), (0, .ref M), (1, .long v1)]) hx hb dX9_seed_9 rfl hl (by decide) rfl (fun ls hl => ?_)
  refine lv_aload_n hx hb dX9_seed_10 rfl (lv_at hl 1 rfl) ?_
  refine lv_lload_n hx hb dX9_seed_11 rfl (lv_at hl 2 rfl) ?_
  refine z_put (ci := 9) (v := .long v1) Z zin9 tyX9 tyX9_ok nmX9 hP hD hS 0 rfl rfl 29 (by decide) zm706 rfl rfl rfl rfl (Nat.le_of_ble_eq_true rfl) dX9_seed_12 (fun H locs hP hD hS => ?_)
  have hP : va_P D vwCl [(M, .inr (9, [.int (nI 0), .ref mtx, .int (nI len), .int (nI pl), .int rt, .int fr, .int pr, .ref mod_, .int (nI n), .ref mne, .ref mro, .int (nI m), .int rrt, .int rfr, .int rpr, .ref mrod, .int (nI rn9), .ref mrne, .ref mrro, .int (nI rm9), .ref mrp, .ref mpg, .ref mbk, .int (nI ac), .ref mke, .ref mik, .int (nI cr), .ref mrw, .ref mrd, .long v1, .ref mtr, .ref mwo, .ref mnx, .int jr]))] H := hP
  have hD : va_D A [(M, .inr (9, [.int (nI 0), .ref mtx, .int (nI len), .int (nI pl), .int rt, .int fr, .int pr, .ref mod_, .int (nI n), .ref mne, .ref mro, .int (nI m), .int rrt, .int rfr, .int rpr, .ref mrod, .int (nI rn9), .ref mrne, .ref mrro, .int (nI rm9), .ref mrp, .ref mpg, .ref mbk, .int (nI ac), .ref mke, .ref mik, .int (nI cr), .ref mrw, .ref mrd, .long v1, .ref mtr, .ref mwo, .ref mnx, .int jr]))] := hD
  refine lv_lload_n hx hb dX9_seed_15 rfl (lv_at hl 0 rfl) ?_
  exact z_lret Z () rfl hP hS dX9_seed_16

theorem dX9_keep_0 : decode cX9_keep 0 = .ok (.aload_n 0, 1) := by decide +kernel
theorem dX9_keep_1 : decode cX9_keep 1 = .ok (.iconst 0, 1) := by decide +kernel
theorem dX9_keep_2 : decode cX9_keep 2 = .ok (.putfield 62, 3) := by decide +kernel
theorem dX9_keep_5 : decode cX9_keep 5 = .ok (.iload_n 1, 1) := by decide +kernel
theorem dX9_keep_6 : decode cX9_keep 6 = .ok (.i2l, 1) := by decide +kernel
theorem dX9_keep_7 : decode cX9_keep 7 = .ok (.lconst 0, 1) := by decide +kernel
theorem dX9_keep_8 : decode cX9_keep 8 = .ok (.lconst 1, 1) := by decide +kernel
theorem dX9_keep_9 : decode cX9_keep 9 = .ok (.invokestatic 69, 3) := by decide +kernel
theorem dX9_keep_12 : decode cX9_keep 12 = .ok (.ifCond .ne 5, 3) := by decide +kernel
theorem dX9_keep_15 : decode cX9_keep 15 = .ok (.iconst (-1), 1) := by decide +kernel
theorem dX9_keep_16 : decode cX9_keep 16 = .ok (.ireturn, 1) := by decide +kernel
theorem dX9_keep_17 : decode cX9_keep 17 = .ok (.aload_n 0, 1) := by decide +kernel
theorem dX9_keep_18 : decode cX9_keep 18 = .ok (.getfield 43, 3) := by decide +kernel
theorem dX9_keep_21 : decode cX9_keep 21 = .ok (.iload_n 1, 1) := by decide +kernel
theorem dX9_keep_22 : decode cX9_keep 22 = .ok (.iconst 1, 1) := by decide +kernel
theorem dX9_keep_23 : decode cX9_keep 23 = .ok (.bastore, 1) := by decide +kernel
theorem dX9_keep_24 : decode cX9_keep 24 = .ok (.iconst 0, 1) := by decide +kernel
theorem dX9_keep_25 : decode cX9_keep 25 = .ok (.istore_n 2, 1) := by decide +kernel
theorem dX9_keep_26 : decode cX9_keep 26 = .ok (.iload_n 2, 1) := by decide +kernel
theorem dX9_keep_27 : decode cX9_keep 27 = .ok (.bipush 36, 2) := by decide +kernel
theorem dX9_keep_29 : decode cX9_keep 29 = .ok (.if_icmp .ge 26, 3) := by decide +kernel
theorem dX9_keep_32 : decode cX9_keep 32 = .ok (.aload_n 0, 1) := by decide +kernel
theorem dX9_keep_33 : decode cX9_keep 33 = .ok (.getfield 40, 3) := by decide +kernel
theorem dX9_keep_36 : decode cX9_keep 36 = .ok (.bipush 36, 2) := by decide +kernel
theorem dX9_keep_38 : decode cX9_keep 38 = .ok (.iload_n 1, 1) := by decide +kernel
theorem dX9_keep_39 : decode cX9_keep 39 = .ok (.imul, 1) := by decide +kernel
theorem dX9_keep_40 : decode cX9_keep 40 = .ok (.iload_n 2, 1) := by decide +kernel
theorem dX9_keep_41 : decode cX9_keep 41 = .ok (.iadd, 1) := by decide +kernel
theorem dX9_keep_42 : decode cX9_keep 42 = .ok (.aload_n 0, 1) := by decide +kernel
theorem dX9_keep_43 : decode cX9_keep 43 = .ok (.getfield 34, 3) := by decide +kernel
theorem dX9_keep_46 : decode cX9_keep 46 = .ok (.iload_n 2, 1) := by decide +kernel
theorem dX9_keep_47 : decode cX9_keep 47 = .ok (.iaload, 1) := by decide +kernel
theorem dX9_keep_48 : decode cX9_keep 48 = .ok (.iastore, 1) := by decide +kernel
theorem dX9_keep_49 : decode cX9_keep 49 = .ok (.iinc 2 1, 3) := by decide +kernel
theorem dX9_keep_52 : decode cX9_keep 52 = .ok (.goto (-26), 3) := by decide +kernel
theorem dX9_keep_55 : decode cX9_keep 55 = .ok (.aload_n 0, 1) := by decide +kernel
theorem dX9_keep_56 : decode cX9_keep 56 = .ok (.getfield 34, 3) := by decide +kernel
theorem dX9_keep_59 : decode cX9_keep 59 = .ok (.bipush 35, 2) := by decide +kernel
theorem dX9_keep_61 : decode cX9_keep 61 = .ok (.iaload, 1) := by decide +kernel
theorem dX9_keep_62 : decode cX9_keep 62 = .ok (.ireturn, 1) := by decide +kernel
theorem zd_X9_keep : yX9_keep.cls ≠ "java/lang/invoke/MethodHandle" ∧ yX9_keep.cls ≠ "java/lang/invoke/VarHandle" ∧ (parseMethodDescriptor yX9_keep.desc).map (fun d => d.parameters.length) = some 1 := by decide +kernel
set_option maxHeartbeats 4000000 in
set_option maxRecDepth 100000 in
theorem zc_X9_keep (l : Launch) (D : va_G) (cI cZ : ClassId) (M : Nat) (th : Int32) (mtx : Nat) (len : Nat) (pl : Nat) (rt : Int32) (fr : Int32) (pr : Int32) (mod_ : Nat) (n : Nat) (mne : Nat) (mro : Nat) (m : Nat) (rrt : Int32) (rfr : Int32) (rpr : Int32) (mrod : Nat) (rn9 : Nat) (mrne : Nat) (mrro : Nat) (rm9 : Nat) (mrp : Nat) (mpg : Nat) (mbk : Nat) (ac : Nat) (mke : Nat) (mik : Nat) (cr : Nat) (mrw : Nat) (mrd : Nat) (sd : Int64) (mtr : Nat) (mwo : Nat) (mnx : Nat) (jr : Int32) (g : Nat → Int32) (ke : Nat → Int32) (kf : Nat → Int32) (x1 : Int32) : zI l yX9_keep cX9_keep 3 .int 1 25 D cI cZ [.ref M, .int x1] [(M, .inr (9, [.int th, .ref mtx, .int (nI len), .int (nI pl), .int rt, .int fr, .int pr, .ref mod_, .int (nI n), .ref mne, .ref mro, .int (nI m), .int rrt, .int rfr, .int rpr, .ref mrod, .int (nI rn9), .ref mrne, .ref mrro, .int (nI rm9), .ref mrp, .ref mpg, .ref mbk, .int (nI ac), .ref mke, .ref mik, .int (nI cr), .ref mrw, .ref mrd, .long sd, .ref mtr, .ref mwo, .ref mnx, .int jr])), (mpg, .inl (cI, 36, .inl g)), (mke, .inl (cI, 72, .inl ke)), (mik, .inl (cZ, 2, .inl kf))] (fun (r : Int32) (u : Unit) => r = zPa 2 x1 (fun _ => g 35) (-1)) (fun (u : Unit) => [(M, .inr (9, [.int (nI 0), .ref mtx, .int (nI len), .int (nI pl), .int rt, .int fr, .int pr, .ref mod_, .int (nI n), .ref mne, .ref mro, .int (nI m), .int rrt, .int rfr, .int rpr, .ref mrod, .int (nI rn9), .ref mrne, .ref mrro, .int (nI rm9), .ref mrp, .ref mpg, .ref mbk, .int (nI ac), .ref mke, .ref mik, .int (nI cr), .ref mrw, .ref mrd, .long sd, .ref mtr, .ref mwo, .ref mnx, .int jr])), (mpg, .inl (cI, 36, .inl g)), (mke, .inl (cI, 72, .inl (zPa 2 x1 (fun k => va_cpy g ke 0 (36 * k) 36) ke))), (mik, .inl (cZ, 2, .inl (zPa 2 x1 (fun k => upd kf k 1) kf)))]) := by
  refine zI_of (by decide) (Nat.le_of_ble_eq_true rfl) ?_
  intro pP eE sS mM aA bB mT cC A ls Z hP hD hS hl
  have hx := Z.1
  have hb := Z.2.1
  have hown := Z.2.2.2.2.2.1
  have hts := Z.2.2.2.2.1
  have Z : zAt pP sS mM aA mT cC D cI cZ A "SurpriseTaxModel" cX9_keep 3 (some .int) := Z
  have hl : lv_has ls 3 [(0, .ref M), (1, .int x1)] := hl
  obtain ⟨H, hH⟩ : ∃ H, H = sS.heap := ⟨_, rfl⟩
  have hP : va_P D vwCl [(M, .inr (9, [.int th, .ref mtx, .int (nI len), .int (nI pl), .int rt, .int fr, .int pr, .ref mod_, .int (nI n), .ref mne, .ref mro, .int (nI m), .int rrt, .int rfr, .int rpr, .ref mrod, .int (nI rn9), .ref mrne, .ref mrro, .int (nI rm9), .ref mrp, .ref mpg, .ref mbk, .int (nI ac), .ref mke, .ref mik, .int (nI cr), .ref mrw, .ref mrd, .long sd, .ref mtr, .ref mwo, .ref mnx, .int jr])), (mpg, .inl (cI, 36, .inl g)), (mke, .inl (cI, 72, .inl ke)), (mik, .inl (cZ, 2, .inl kf))] H := by rw [hH]; exact hP
  have hS : va_S A sS.heap H [] := by rw [hH]; exact hS
  rw [← hH]
  clear hH
  obtain ⟨locs, hlo⟩ : ∃ q : List Loc, q = [] := ⟨_, rfl⟩
  rw [← hlo] at hS ⊢
  clear hlo
  refine lv_aload_n hx hb dX9_keep_0 rfl (lv_at hl 0 rfl) ?_
  refine lv_iconst (v := nI 0) hx hb dX9_keep_1 (by decide) ?_
  refine z_put (ci := 9) (v := .int (nI 0)) Z zin9 tyX9 tyX9_ok nmX9 hP hD hS 0 rfl rfl 0 (by decide) zm677 rfl rfl rfl rfl (Nat.le_of_ble_eq_true rfl) dX9_keep_2 (fun H locs hP hD hS => ?_)
  have hP : va_P D vwCl [(M, .inr (9, [.int (nI 0), .ref mtx, .int (nI len), .int (nI pl), .int rt, .int fr, .int pr, .ref mod_, .int (nI n), .ref mne, .ref mro, .int (nI m), .int rrt, .int rfr, .int rpr, .ref mrod, .int (nI rn9), .ref mrne, .ref mrro, .int (nI rm9), .ref mrp, .ref mpg, .ref mbk, .int (nI ac), .ref mke, .ref mik, .int (nI cr), .ref mrw, .ref mrd, .long sd, .ref mtr, .ref mwo, .ref mnx, .int jr])), (mpg, .inl (cI, 36, .inl g)), (mke, .inl (cI, 72, .inl ke)), (mik, .inl (cZ, 2, .inl kf))] H := hP
  have hD : va_D A [(M, .inr (9, [.int (nI 0), .ref mtx, .int (nI len), .int (nI pl), .int rt, .int fr, .int pr, .ref mod_, .int (nI n), .ref mne, .ref mro, .int (nI m), .int rrt, .int rfr, .int rpr, .ref mrod, .int (nI rn9), .ref mrne, .ref mrro, .int (nI rm9), .ref mrp, .ref mpg, .ref mbk, .int (nI ac), .ref mke, .ref mik, .int (nI cr), .ref mrw, .ref mrd, .long sd, .ref mtr, .ref mwo, .ref mnx, .int jr])), (mpg, .inl (cI, 36, .inl g)), (mke, .inl (cI, 72, .inl ke)), (mik, .inl (cZ, 2, .inl kf))] := hD
  refine lv_iload_n hx hb dX9_keep_5 rfl (lv_at hl 1 rfl) ?_
  refine lv_i2l (v := x1.toInt64) hx hb dX9_keep_6 rfl ?_
  refine lv_lconst (v := 0) hx hb dX9_keep_7 (by decide) ?_
  refine lv_lconst (v := 1) hx hb dX9_keep_8 (by decide) ?_
  refine z_callSi (As := [.long x1.toInt64, .long 0, .long 1]) (rest := []) Z hP hD hS hl.1 (zc_X9_in l D cI cZ x1.toInt64 0 1 ) zm750 zm751 zm39 zm752 zd_X9_in ⟨Nat.le_of_ble_eq_true rfl, Nat.le_of_ble_eq_true rfl⟩ ⟨Nat.zero_le _, Nat.zero_le _⟩ [] rfl (by decide) (fun _ => rfl) rfl (Nat.le_of_ble_eq_true rfl) rfl dX9_keep_9 (fun r_1 u H locs h_2 hP hD hS => ?_)
  have hP : va_P D vwCl [(M, .inr (9, [.int (nI 0), .ref mtx, .int (nI len), .int (nI pl), .int rt, .int fr, .int pr, .ref mod_, .int (nI n), .ref mne, .ref mro, .int (nI m), .int rrt, .int rfr, .int rpr, .ref mrod, .int (nI rn9), .ref mrne, .ref mrro, .int (nI rm9), .ref mrp, .ref mpg, .ref mbk, .int (nI ac), .ref mke, .ref mik, .int (nI cr), .ref mrw, .ref mrd, .long sd, .ref mtr, .ref mwo, .ref mnx, .int jr])), (mpg, .inl (cI, 36, .inl g)), (mke, .inl (cI, 72, .inl ke)), (mik, .inl (cZ, 2, .inl kf))] H := hP
  have hD : va_D A [(M, .inr (9, [.int (nI 0), .ref mtx, .int (nI len), .int (nI pl), .int rt, .int fr, .int pr, .ref mod_, .int (nI n), .ref mne, .ref mro, .int (nI m), .int rrt, .int rfr, .int rpr, .ref mrod, .int (nI rn9), .ref mrne, .ref mrro, .int (nI rm9), .ref mrp, .ref mpg, .ref mbk, .int (nI ac), .ref mke, .ref mik, .int (nI cr), .ref mrw, .ref mrd, .long sd, .ref mtr, .ref mwo, .ref mnx, .int jr])), (mpg, .inl (cI, 36, .inl g)), (mke, .inl (cI, 72, .inl ke)), (mik, .inl (cZ, 2, .inl kf))] := hD
  have h_2 : r_1 = if ¬ x1.toInt64 < 0 ∧ ¬ 1 < x1.toInt64 then 1 else 0 := h_2
  subst h_2
  refine lv_if_ne (tgt := 17) hx hb dX9_keep_12 (by decide) (fun c_3 => ?_) (fun c_3 => ?_)
  · have c_3 := zb1 c_3
    have hrg := (zinr (x := x1) 0 1 rfl rfl).mp c_3
    obtain ⟨k, hk0, hk1, rfl⟩ := zRa_of (lo := 0) (hi := 1) (by decide) (by decide) hrg.1 hrg.2
    have hk2 : k < 2 := by omega
    refine lv_aload_n hx hb dX9_keep_17 rfl (lv_at hl 0 rfl) ?_
    refine z_get (ci := 9) (v := .ref mik) Z zin9 hP 0 rfl rfl 25 (by decide) zm702 rfl rfl dX9_keep_18 ?_
    refine lv_iload_n hx hb dX9_keep_21 rfl (lv_at hl 1 rfl) ?_
    refine lv_iconst (v := nI 1) hx hb dX9_keep_22 (by decide) ?_
    refine z_zast (n := 2) (f := kf) (j := k) (x := nI 1) Z hP hD hS 3 rfl (by first | exact zb01 | decide) (by omega) (by decide) dX9_keep_23 (fun H locs hP hD hS => ?_)
    have hP : va_P D vwCl [(M, .inr (9, [.int (nI 0), .ref mtx, .int (nI len), .int (nI pl), .int rt, .int fr, .int pr, .ref mod_, .int (nI n), .ref mne, .ref mro, .int (nI m), .int rrt, .int rfr, .int rpr, .ref mrod, .int (nI rn9), .ref mrne, .ref mrro, .int (nI rm9), .ref mrp, .ref mpg, .ref mbk, .int (nI ac), .ref mke, .ref mik, .int (nI cr), .ref mrw, .ref mrd, .long sd, .ref mtr, .ref mwo, .ref mnx, .int jr])), (mpg, .inl (cI, 36, .inl g)), (mke, .inl (cI, 72, .inl ke)), (mik, .inl (cZ, 2, .inl (upd kf k 1)))] H := hP
    have hD : va_D A [(M, .inr (9, [.int (nI 0), .ref mtx, .int (nI len), .int (nI pl), .int rt, .int fr, .int pr, .ref mod_, .int (nI n), .ref mne, .ref mro, .int (nI m), .int rrt, .int rfr, .int rpr, .ref mrod, .int (nI rn9), .ref mrne, .ref mrro, .int (nI rm9), .ref mrp, .ref mpg, .ref mbk, .int (nI ac), .ref mke, .ref mik, .int (nI cr), .ref mrw, .ref mrd, .long sd, .ref mtr, .ref mwo, .ref mnx, .int jr])), (mpg, .inl (cI, 36, .inl g)), (mke, .inl (cI, 72, .inl ke)), (mik, .inl (cZ, 2, .inl (upd kf k 1)))] := hD
    refine lv_iconst (v := nI 0) hx hb dX9_keep_24 (by decide) ?_
    refine lv_istore_n (lv' := [(2, .int (nI 0)), (0, .ref M), (1, .int (nI k))]) hx hb dX9_keep_25 rfl hl (by decide) rfl (fun ls hl => ?_)
    have e_5 : ke = va_cpy g ke 0 (36 * k) 0 := by first | rw [zcpyT_0] | rfl
    have hP : va_P D vwCl [(M, .inr (9, [.int (nI 0), .ref mtx, .int (nI len), .int (nI pl), .int rt, .int fr, .int pr, .ref mod_, .int (nI n), .ref mne, .ref mro, .int (nI m), .int rrt, .int rfr, .int rpr, .ref mrod, .int (nI rn9), .ref mrne, .ref mrro, .int (nI rm9), .ref mrp, .ref mpg, .ref mbk, .int (nI ac), .ref mke, .ref mik, .int (nI cr), .ref mrw, .ref mrd, .long sd, .ref mtr, .ref mwo, .ref mnx, .int jr])), (mpg, .inl (cI, 36, .inl g)), (mke, .inl (cI, 72, .inl (va_cpy g ke 0 (36 * k) 0))), (mik, .inl (cZ, 2, .inl (upd kf k 1)))] H := Eq.subst (motive := fun zz_ => va_P D vwCl [(M, .inr (9, [.int (nI 0), .ref mtx, .int (nI len), .int (nI pl), .int rt, .int fr, .int pr, .ref mod_, .int (nI n), .ref mne, .ref mro, .int (nI m), .int rrt, .int rfr, .int rpr, .ref mrod, .int (nI rn9), .ref mrne, .ref mrro, .int (nI rm9), .ref mrp, .ref mpg, .ref mbk, .int (nI ac), .ref mke, .ref mik, .int (nI cr), .ref mrw, .ref mrd, .long sd, .ref mtr, .ref mwo, .ref mnx, .int jr])), (mpg, .inl (cI, 36, .inl g)), (mke, .inl (cI, 72, .inl zz_)), (mik, .inl (cZ, 2, .inl (upd kf k 1)))] H) e_5 hP
    have hD : va_D A [(M, .inr (9, [.int (nI 0), .ref mtx, .int (nI len), .int (nI pl), .int rt, .int fr, .int pr, .ref mod_, .int (nI n), .ref mne, .ref mro, .int (nI m), .int rrt, .int rfr, .int rpr, .ref mrod, .int (nI rn9), .ref mrne, .ref mrro, .int (nI rm9), .ref mrp, .ref mpg, .ref mbk, .int (nI ac), .ref mke, .ref mik, .int (nI cr), .ref mrw, .ref mrd, .long sd, .ref mtr, .ref mwo, .ref mnx, .int jr])), (mpg, .inl (cI, 36, .inl g)), (mke, .inl (cI, 72, .inl (va_cpy g ke 0 (36 * k) 0))), (mik, .inl (cZ, 2, .inl (upd kf k 1)))] := zD_of hD rfl
    have hl : lv_has ls 3 [(2, .int (nI 0)), (0, .ref M), (1, .int (nI k))] := lv_sub hl [0, 1, 2] rfl
    refine z_loop (fun i H locs ls => va_P D vwCl [(M, .inr (9, [.int (nI 0), .ref mtx, .int (nI len), .int (nI pl), .int rt, .int fr, .int pr, .ref mod_, .int (nI n), .ref mne, .ref mro, .int (nI m), .int rrt, .int rfr, .int rpr, .ref mrod, .int (nI rn9), .ref mrne, .ref mrro, .int (nI rm9), .ref mrp, .ref mpg, .ref mbk, .int (nI ac), .ref mke, .ref mik, .int (nI cr), .ref mrw, .ref mrd, .long sd, .ref mtr, .ref mwo, .ref mnx, .int jr])), (mpg, .inl (cI, 36, .inl g)), (mke, .inl (cI, 72, .inl (va_cpy g ke 0 (36 * k) i))), (mik, .inl (cZ, 2, .inl (upd kf k 1)))] H ∧ va_D A [(M, .inr (9, [.int (nI 0), .ref mtx, .int (nI len), .int (nI pl), .int rt, .int fr, .int pr, .ref mod_, .int (nI n), .ref mne, .ref mro, .int (nI m), .int rrt, .int rfr, .int rpr, .ref mrod, .int (nI rn9), .ref mrne, .ref mrro, .int (nI rm9), .ref mrp, .ref mpg, .ref mbk, .int (nI ac), .ref mke, .ref mik, .int (nI cr), .ref mrw, .ref mrd, .long sd, .ref mtr, .ref mwo, .ref mnx, .int jr])), (mpg, .inl (cI, 36, .inl g)), (mke, .inl (cI, 72, .inl (va_cpy g ke 0 (36 * k) i))), (mik, .inl (cZ, 2, .inl (upd kf k 1)))] ∧ va_S A sS.heap H locs ∧ lv_has ls 3 [(2, .int (nI i)), (0, .ref M), (1, .int (nI k))]) (36) (lo := 0) (by omega) ⟨hP, hD, hS, hl⟩ (fun i hi_i ih_4 H locs ls hI => ?_)
    obtain ⟨hP, hD, hS, hl⟩ := hI
    have hP : va_P D vwCl [(M, .inr (9, [.int (nI 0), .ref mtx, .int (nI len), .int (nI pl), .int rt, .int fr, .int pr, .ref mod_, .int (nI n), .ref mne, .ref mro, .int (nI m), .int rrt, .int rfr, .int rpr, .ref mrod, .int (nI rn9), .ref mrne, .ref mrro, .int (nI rm9), .ref mrp, .ref mpg, .ref mbk, .int (nI ac), .ref mke, .ref mik, .int (nI cr), .ref mrw, .ref mrd, .long sd, .ref mtr, .ref mwo, .ref mnx, .int jr])), (mpg, .inl (cI, 36, .inl g)), (mke, .inl (cI, 72, .inl (va_cpy g ke 0 (36 * k) i))), (mik, .inl (cZ, 2, .inl (upd kf k 1)))] H := hP
    have hD : va_D A [(M, .inr (9, [.int (nI 0), .ref mtx, .int (nI len), .int (nI pl), .int rt, .int fr, .int pr, .ref mod_, .int (nI n), .ref mne, .ref mro, .int (nI m), .int rrt, .int rfr, .int rpr, .ref mrod, .int (nI rn9), .ref mrne, .ref mrro, .int (nI rm9), .ref mrp, .ref mpg, .ref mbk, .int (nI ac), .ref mke, .ref mik, .int (nI cr), .ref mrw, .ref mrd, .long sd, .ref mtr, .ref mwo, .ref mnx, .int jr])), (mpg, .inl (cI, 36, .inl g)), (mke, .inl (cI, 72, .inl (va_cpy g ke 0 (36 * k) i))), (mik, .inl (cZ, 2, .inl (upd kf k 1)))] := hD
    have hl : lv_has ls 3 [(2, .int (nI i)), (0, .ref M), (1, .int (nI k))] := hl
    refine lv_iload_n hx hb dX9_keep_26 rfl (lv_at hl 0 rfl) ?_
    refine lv_bipush (v := nI 36) hx hb dX9_keep_27 (by decide) ?_
    refine lv_icmp_ge (tgt := 55) hx hb dX9_keep_29 (by decide) (fun c_6 => ?_) (fun c_6 => ?_)
    · have c_6 := zle (i := 36) (j := i) (by decide) (by omega) c_6
      have hE_ : 36 = i := by omega
      subst hE_
      refine lv_aload_n hx hb dX9_keep_55 rfl (lv_at hl 1 rfl) ?_
      refine z_get (ci := 9) (v := .ref mpg) Z zin9 hP 0 rfl rfl 21 (by decide) zm698 rfl rfl dX9_keep_56 ?_
      refine lv_bipush (v := nI 35) hx hb dX9_keep_59 (by decide) ?_
      refine z_iald (n := 36) (f := g) (j := 35) Z hP 1 rfl (by decide) (by decide) dX9_keep_61 ?_
      have e_7 : va_cpy g ke 0 (36 * k) 36 = zPa 2 (nI k) (fun k => va_cpy g ke 0 (36 * k) 36) ke := by first | rw [zPa_n (fun q => hrgn (zhas2_r q))] | (rw [zPa_y hk2 (by decide)]; first | rw [if_pos (by assumption)] | rw [if_neg (by assumption)]) | rw [zPa_y hk2 (by decide)] | rfl
      have hP : va_P D vwCl [(M, .inr (9, [.int (nI 0), .ref mtx, .int (nI len), .int (nI pl), .int rt, .int fr, .int pr, .ref mod_, .int (nI n), .ref mne, .ref mro, .int (nI m), .int rrt, .int rfr, .int rpr, .ref mrod, .int (nI rn9), .ref mrne, .ref mrro, .int (nI rm9), .ref mrp, .ref mpg, .ref mbk, .int (nI ac), .ref mke, .ref mik, .int (nI cr), .ref mrw, .ref mrd, .long sd, .ref mtr, .ref mwo, .ref mnx, .int jr])), (mpg, .inl (cI, 36, .inl g)), (mke, .inl (cI, 72, .inl (zPa 2 (nI k) (fun k => va_cpy g ke 0 (36 * k) 36) ke))), (mik, .inl (cZ, 2, .inl (upd kf k 1)))] H := Eq.subst (motive := fun zz_ => va_P D vwCl [(M, .inr (9, [.int (nI 0), .ref mtx, .int (nI len), .int (nI pl), .int rt, .int fr, .int pr, .ref mod_, .int (nI n), .ref mne, .ref mro, .int (nI m), .int rrt, .int rfr, .int rpr, .ref mrod, .int (nI rn9), .ref mrne, .ref mrro, .int (nI rm9), .ref mrp, .ref mpg, .ref mbk, .int (nI ac), .ref mke, .ref mik, .int (nI cr), .ref mrw, .ref mrd, .long sd, .ref mtr, .ref mwo, .ref mnx, .int jr])), (mpg, .inl (cI, 36, .inl g)), (mke, .inl (cI, 72, .inl zz_)), (mik, .inl (cZ, 2, .inl (upd kf k 1)))] H) e_7 hP
      have e_8 : upd kf k 1 = zPa 2 (nI k) (fun k => upd kf k 1) kf := by first | rw [zPa_n (fun q => hrgn (zhas2_r q))] | (rw [zPa_y hk2 (by decide)]; first | rw [if_pos (by assumption)] | rw [if_neg (by assumption)]) | rw [zPa_y hk2 (by decide)] | rfl
      have hP : va_P D vwCl [(M, .inr (9, [.int (nI 0), .ref mtx, .int (nI len), .int (nI pl), .int rt, .int fr, .int pr, .ref mod_, .int (nI n), .ref mne, .ref mro, .int (nI m), .int rrt, .int rfr, .int rpr, .ref mrod, .int (nI rn9), .ref mrne, .ref mrro, .int (nI rm9), .ref mrp, .ref mpg, .ref mbk, .int (nI ac), .ref mke, .ref mik, .int (nI cr), .ref mrw, .ref mrd, .long sd, .ref mtr, .ref mwo, .ref mnx, .int jr])), (mpg, .inl (cI, 36, .inl g)), (mke, .inl (cI, 72, .inl (zPa 2 (nI k) (fun k => va_cpy g ke 0 (36 * k) 36) ke))), (mik, .inl (cZ, 2, .inl (zPa 2 (nI k) (fun k => upd kf k 1) kf)))] H := Eq.subst (motive := fun zz_ => va_P D vwCl [(M, .inr (9, [.int (nI 0), .ref mtx, .int (nI len), .int (nI pl), .int rt, .int fr, .int pr, .ref mod_, .int (nI n), .ref mne, .ref mro, .int (nI m), .int rrt, .int rfr, .int rpr, .ref mrod, .int (nI rn9), .ref mrne, .ref mrro, .int (nI rm9), .ref mrp, .ref mpg, .ref mbk, .int (nI ac), .ref mke, .ref mik, .int (nI cr), .ref mrw, .ref mrd, .long sd, .ref mtr, .ref mwo, .ref mnx, .int jr])), (mpg, .inl (cI, 36, .inl g)), (mke, .inl (cI, 72, .inl (zPa 2 (nI k) (fun k => va_cpy g ke 0 (36 * k) 36) ke))), (mik, .inl (cZ, 2, .inl zz_))] H) e_8 hP
      have hD : va_D A [(M, .inr (9, [.int (nI 0), .ref mtx, .int (nI len), .int (nI pl), .int rt, .int fr, .int pr, .ref mod_, .int (nI n), .ref mne, .ref mro, .int (nI m), .int rrt, .int rfr, .int rpr, .ref mrod, .int (nI rn9), .ref mrne, .ref mrro, .int (nI rm9), .ref mrp, .ref mpg, .ref mbk, .int (nI ac), .ref mke, .ref mik, .int (nI cr), .ref mrw, .ref mrd, .long sd, .ref mtr, .ref mwo, .ref mnx, .int jr])), (mpg, .inl (cI, 36, .inl g)), (mke, .inl (cI, 72, .inl (zPa 2 (nI k) (fun k => va_cpy g ke 0 (36 * k) 36) ke))), (mik, .inl (cZ, 2, .inl (zPa 2 (nI k) (fun k => upd kf k 1) kf)))] := zD_of hD rfl
      exact z_iret Z () (by first | rw [zPa_n (fun q => hrgn (zhas2_r q))] | (rw [zPa_y hk2 (by decide)]; first | rw [if_pos (by assumption)] | rw [if_neg (by assumption)]) | rw [zPa_y hk2 (by decide)] | rfl) hP hS dX9_keep_62
    · have c_6 := znle (i := 36) (j := i) (by decide) (by omega) c_6
      refine lv_aload_n hx hb dX9_keep_32 rfl (lv_at hl 1 rfl) ?_
      refine z_get (ci := 9) (v := .ref mke) Z zin9 hP 0 rfl rfl 24 (by decide) zm701 rfl rfl dX9_keep_33 ?_
      refine lv_bipush (v := nI 36) hx hb dX9_keep_36 (by decide) ?_
      refine lv_iload_n hx hb dX9_keep_38 rfl (lv_at hl 2 rfl) ?_
      refine lv_imul hx hb dX9_keep_39 ?_
      refine z_top (y := nI (36 * k)) (z_mul _ _) ?_
      refine lv_iload_n hx hb dX9_keep_40 rfl (lv_at hl 0 rfl) ?_
      refine lv_iadd hx hb dX9_keep_41 ?_
      refine z_top (y := nI (36 * k + i)) (z_add _ _) ?_
      refine lv_aload_n hx hb dX9_keep_42 rfl (lv_at hl 1 rfl) ?_
      refine z_get (ci := 9) (v := .ref mpg) Z zin9 hP 0 rfl rfl 21 (by decide) zm698 rfl rfl dX9_keep_43 ?_
      refine lv_iload_n hx hb dX9_keep_46 rfl (lv_at hl 0 rfl) ?_
      refine z_iald (n := 36) (f := g) (j := i) Z hP 1 rfl (by omega) (by decide) dX9_keep_47 ?_
      refine z_iast (n := 72) (f := va_cpy g ke 0 (36 * k) i) (j := 36 * k + i) (x := g i) Z hP hD hS 2 rfl (by omega) (by decide) dX9_keep_48 (fun H locs hP hD hS => ?_)
      have hP : va_P D vwCl [(M, .inr (9, [.int (nI 0), .ref mtx, .int (nI len), .int (nI pl), .int rt, .int fr, .int pr, .ref mod_, .int (nI n), .ref mne, .ref mro, .int (nI m), .int rrt, .int rfr, .int rpr, .ref mrod, .int (nI rn9), .ref mrne, .ref mrro, .int (nI rm9), .ref mrp, .ref mpg, .ref mbk, .int (nI ac), .ref mke, .ref mik, .int (nI cr), .ref mrw, .ref mrd, .long sd, .ref mtr, .ref mwo, .ref mnx, .int jr])), (mpg, .inl (cI, 36, .inl g)), (mke, .inl (cI, 72, .inl (upd (va_cpy g ke 0 (36 * k) i) (36 * k + i) (g i)))), (mik, .inl (cZ, 2, .inl (upd kf k 1)))] H := hP
      have hD : va_D A [(M, .inr (9, [.int (nI 0), .ref mtx, .int (nI len), .int (nI pl), .int rt, .int fr, .int pr, .ref mod_, .int (nI n), .ref mne, .ref mro, .int (nI m), .int rrt, .int rfr, .int rpr, .ref mrod, .int (nI rn9), .ref mrne, .ref mrro, .int (nI rm9), .ref mrp, .ref mpg, .ref mbk, .int (nI ac), .ref mke, .ref mik, .int (nI cr), .ref mrw, .ref mrd, .long sd, .ref mtr, .ref mwo, .ref mnx, .int jr])), (mpg, .inl (cI, 36, .inl g)), (mke, .inl (cI, 72, .inl (upd (va_cpy g ke 0 (36 * k) i) (36 * k + i) (g i)))), (mik, .inl (cZ, 2, .inl (upd kf k 1)))] := hD
      refine lv_iinc (v := nI (i + 1)) (lv' := [(2, .int (nI (i + 1))), (0, .ref M), (1, .int (nI k))]) hx hb dX9_keep_49 hl (k := 0) rfl (z_inc _ 1) (by decide) rfl (fun ls hl => ?_)
      refine lv_goto (tgt := 26) hx hb dX9_keep_52 (by decide) ?_
      have e_9 : upd (va_cpy g ke 0 (36 * k) i) (36 * k + i) (g i) = va_cpy g ke 0 (36 * k) (i + 1) := by first | exact zcpyT_s0 _ _ _ _ | rfl
      have hP : va_P D vwCl [(M, .inr (9, [.int (nI 0), .ref mtx, .int (nI len), .int (nI pl), .int rt, .int fr, .int pr, .ref mod_, .int (nI n), .ref mne, .ref mro, .int (nI m), .int rrt, .int rfr, .int rpr, .ref mrod, .int (nI rn9), .ref mrne, .ref mrro, .int (nI rm9), .ref mrp, .ref mpg, .ref mbk, .int (nI ac), .ref mke, .ref mik, .int (nI cr), .ref mrw, .ref mrd, .long sd, .ref mtr, .ref mwo, .ref mnx, .int jr])), (mpg, .inl (cI, 36, .inl g)), (mke, .inl (cI, 72, .inl (va_cpy g ke 0 (36 * k) (i + 1)))), (mik, .inl (cZ, 2, .inl (upd kf k 1)))] H := Eq.subst (motive := fun zz_ => va_P D vwCl [(M, .inr (9, [.int (nI 0), .ref mtx, .int (nI len), .int (nI pl), .int rt, .int fr, .int pr, .ref mod_, .int (nI n), .ref mne, .ref mro, .int (nI m), .int rrt, .int rfr, .int rpr, .ref mrod, .int (nI rn9), .ref mrne, .ref mrro, .int (nI rm9), .ref mrp, .ref mpg, .ref mbk, .int (nI ac), .ref mke, .ref mik, .int (nI cr), .ref mrw, .ref mrd, .long sd, .ref mtr, .ref mwo, .ref mnx, .int jr])), (mpg, .inl (cI, 36, .inl g)), (mke, .inl (cI, 72, .inl zz_)), (mik, .inl (cZ, 2, .inl (upd kf k 1)))] H) e_9 hP
      have hD : va_D A [(M, .inr (9, [.int (nI 0), .ref mtx, .int (nI len), .int (nI pl), .int rt, .int fr, .int pr, .ref mod_, .int (nI n), .ref mne, .ref mro, .int (nI m), .int rrt, .int rfr, .int rpr, .ref mrod, .int (nI rn9), .ref mrne, .ref mrro, .int (nI rm9), .ref mrp, .ref mpg, .ref mbk, .int (nI ac), .ref mke, .ref mik, .int (nI cr), .ref mrw, .ref mrd, .long sd, .ref mtr, .ref mwo, .ref mnx, .int jr])), (mpg, .inl (cI, 36, .inl g)), (mke, .inl (cI, 72, .inl (va_cpy g ke 0 (36 * k) (i + 1)))), (mik, .inl (cZ, 2, .inl (upd kf k 1)))] := zD_of hD rfl
      have hl : lv_has ls 3 [(2, .int (nI (i + 1))), (0, .ref M), (1, .int (nI k))] := lv_sub hl [0, 1, 2] rfl
      exact ih_4 _ _ _ (by omega) ⟨hP, hD, hS, hl⟩
  · have c_3 := zb0 c_3
    have hrgn := fun q => c_3 ((zinr (x := x1) 0 1 rfl rfl).mpr q)
    refine lv_iconst (v := -1) hx hb dX9_keep_15 (by decide) ?_
    have e_10 : ke = zPa 2 x1 (fun k => va_cpy g ke 0 (36 * k) 36) ke := by first | rw [zPa_n (fun q => hrgn (zhas2_r q))] | (rw [zPa_y hk2 (by decide)]; first | rw [if_pos (by assumption)] | rw [if_neg (by assumption)]) | rw [zPa_y hk2 (by decide)] | rfl
    have hP : va_P D vwCl [(M, .inr (9, [.int (nI 0), .ref mtx, .int (nI len), .int (nI pl), .int rt, .int fr, .int pr, .ref mod_, .int (nI n), .ref mne, .ref mro, .int (nI m), .int rrt, .int rfr, .int rpr, .ref mrod, .int (nI rn9), .ref mrne, .ref mrro, .int (nI rm9), .ref mrp, .ref mpg, .ref mbk, .int (nI ac), .ref mke, .ref mik, .int (nI cr), .ref mrw, .ref mrd, .long sd, .ref mtr, .ref mwo, .ref mnx, .int jr])), (mpg, .inl (cI, 36, .inl g)), (mke, .inl (cI, 72, .inl (zPa 2 x1 (fun k => va_cpy g ke 0 (36 * k) 36) ke))), (mik, .inl (cZ, 2, .inl kf))] H := Eq.subst (motive := fun zz_ => va_P D vwCl [(M, .inr (9, [.int (nI 0), .ref mtx, .int (nI len), .int (nI pl), .int rt, .int fr, .int pr, .ref mod_, .int (nI n), .ref mne, .ref mro, .int (nI m), .int rrt, .int rfr, .int rpr, .ref mrod, .int (nI rn9), .ref mrne, .ref mrro, .int (nI rm9), .ref mrp, .ref mpg, .ref mbk, .int (nI ac), .ref mke, .ref mik, .int (nI cr), .ref mrw, .ref mrd, .long sd, .ref mtr, .ref mwo, .ref mnx, .int jr])), (mpg, .inl (cI, 36, .inl g)), (mke, .inl (cI, 72, .inl zz_)), (mik, .inl (cZ, 2, .inl kf))] H) e_10 hP
    have e_11 : kf = zPa 2 x1 (fun k => upd kf k 1) kf := by first | rw [zPa_n (fun q => hrgn (zhas2_r q))] | (rw [zPa_y hk2 (by decide)]; first | rw [if_pos (by assumption)] | rw [if_neg (by assumption)]) | rw [zPa_y hk2 (by decide)] | rfl
    have hP : va_P D vwCl [(M, .inr (9, [.int (nI 0), .ref mtx, .int (nI len), .int (nI pl), .int rt, .int fr, .int pr, .ref mod_, .int (nI n), .ref mne, .ref mro, .int (nI m), .int rrt, .int rfr, .int rpr, .ref mrod, .int (nI rn9), .ref mrne, .ref mrro, .int (nI rm9), .ref mrp, .ref mpg, .ref mbk, .int (nI ac), .ref mke, .ref mik, .int (nI cr), .ref mrw, .ref mrd, .long sd, .ref mtr, .ref mwo, .ref mnx, .int jr])), (mpg, .inl (cI, 36, .inl g)), (mke, .inl (cI, 72, .inl (zPa 2 x1 (fun k => va_cpy g ke 0 (36 * k) 36) ke))), (mik, .inl (cZ, 2, .inl (zPa 2 x1 (fun k => upd kf k 1) kf)))] H := Eq.subst (motive := fun zz_ => va_P D vwCl [(M, .inr (9, [.int (nI 0), .ref mtx, .int (nI len), .int (nI pl), .int rt, .int fr, .int pr, .ref mod_, .int (nI n), .ref mne, .ref mro, .int (nI m), .int rrt, .int rfr, .int rpr, .ref mrod, .int (nI rn9), .ref mrne, .ref mrro, .int (nI rm9), .ref mrp, .ref mpg, .ref mbk, .int (nI ac), .ref mke, .ref mik, .int (nI cr), .ref mrw, .ref mrd, .long sd, .ref mtr, .ref mwo, .ref mnx, .int jr])), (mpg, .inl (cI, 36, .inl g)), (mke, .inl (cI, 72, .inl (zPa 2 x1 (fun k => va_cpy g ke 0 (36 * k) 36) ke))), (mik, .inl (cZ, 2, .inl zz_))] H) e_11 hP
    have hD : va_D A [(M, .inr (9, [.int (nI 0), .ref mtx, .int (nI len), .int (nI pl), .int rt, .int fr, .int pr, .ref mod_, .int (nI n), .ref mne, .ref mro, .int (nI m), .int rrt, .int rfr, .int rpr, .ref mrod, .int (nI rn9), .ref mrne, .ref mrro, .int (nI rm9), .ref mrp, .ref mpg, .ref mbk, .int (nI ac), .ref mke, .ref mik, .int (nI cr), .ref mrw, .ref mrd, .long sd, .ref mtr, .ref mwo, .ref mnx, .int jr])), (mpg, .inl (cI, 36, .inl g)), (mke, .inl (cI, 72, .inl (zPa 2 x1 (fun k => va_cpy g ke 0 (36 * k) 36) ke))), (mik, .inl (cZ, 2, .inl (zPa 2 x1 (fun k => upd kf k 1) kf)))] := zD_of hD rfl
    exact z_iret Z () (by first | rw [zPa_n (fun q => hrgn (zhas2_r q))] | (rw [zPa_y hk2 (by decide)]; first | rw [if_pos (by assumption)] | rw [if_neg (by assumption)]) | rw [zPa_y hk2 (by decide)] | rfl) hP hS dX9_keep_16

theorem dX9_again_0 : decode cX9_again 0 = .ok (.aload_n 0, 1) := by decide +kernel
theorem dX9_again_1 : decode cX9_again 1 = .ok (.iconst 0, 1) := by decide +kernel
theorem dX9_again_2 : decode cX9_again 2 = .ok (.putfield 62, 3) := by decide +kernel
theorem dX9_again_5 : decode cX9_again 5 = .ok (.iload_n 1, 1) := by decide +kernel
theorem dX9_again_6 : decode cX9_again 6 = .ok (.i2l, 1) := by decide +kernel
theorem dX9_again_7 : decode cX9_again 7 = .ok (.lconst 0, 1) := by decide +kernel
theorem dX9_again_8 : decode cX9_again 8 = .ok (.lconst 1, 1) := by decide +kernel
theorem dX9_again_9 : decode cX9_again 9 = .ok (.invokestatic 69, 3) := by decide +kernel
theorem dX9_again_12 : decode cX9_again 12 = .ok (.ifCond .ne 5, 3) := by decide +kernel
theorem dX9_again_15 : decode cX9_again 15 = .ok (.iconst (-1), 1) := by decide +kernel
theorem dX9_again_16 : decode cX9_again 16 = .ok (.ireturn, 1) := by decide +kernel
theorem dX9_again_17 : decode cX9_again 17 = .ok (.aload_n 0, 1) := by decide +kernel
theorem dX9_again_18 : decode cX9_again 18 = .ok (.getfield 43, 3) := by decide +kernel
theorem dX9_again_21 : decode cX9_again 21 = .ok (.iload_n 1, 1) := by decide +kernel
theorem dX9_again_22 : decode cX9_again 22 = .ok (.baload, 1) := by decide +kernel
theorem dX9_again_23 : decode cX9_again 23 = .ok (.ifCond .ne 6, 3) := by decide +kernel
theorem dX9_again_26 : decode cX9_again 26 = .ok (.bipush (-3), 2) := by decide +kernel
theorem dX9_again_28 : decode cX9_again 28 = .ok (.ireturn, 1) := by decide +kernel
theorem dX9_again_29 : decode cX9_again 29 = .ok (.iconst 0, 1) := by decide +kernel
theorem dX9_again_30 : decode cX9_again 30 = .ok (.istore_n 2, 1) := by decide +kernel
theorem dX9_again_31 : decode cX9_again 31 = .ok (.iload_n 2, 1) := by decide +kernel
theorem dX9_again_32 : decode cX9_again 32 = .ok (.bipush 36, 2) := by decide +kernel
theorem dX9_again_34 : decode cX9_again 34 = .ok (.if_icmp .ge 26, 3) := by decide +kernel
theorem dX9_again_37 : decode cX9_again 37 = .ok (.aload_n 0, 1) := by decide +kernel
theorem dX9_again_38 : decode cX9_again 38 = .ok (.getfield 34, 3) := by decide +kernel
theorem dX9_again_41 : decode cX9_again 41 = .ok (.iload_n 2, 1) := by decide +kernel
theorem dX9_again_42 : decode cX9_again 42 = .ok (.aload_n 0, 1) := by decide +kernel
theorem dX9_again_43 : decode cX9_again 43 = .ok (.getfield 40, 3) := by decide +kernel
theorem dX9_again_46 : decode cX9_again 46 = .ok (.bipush 36, 2) := by decide +kernel
theorem dX9_again_48 : decode cX9_again 48 = .ok (.iload_n 1, 1) := by decide +kernel
theorem dX9_again_49 : decode cX9_again 49 = .ok (.imul, 1) := by decide +kernel
theorem dX9_again_50 : decode cX9_again 50 = .ok (.iload_n 2, 1) := by decide +kernel
theorem dX9_again_51 : decode cX9_again 51 = .ok (.iadd, 1) := by decide +kernel
theorem dX9_again_52 : decode cX9_again 52 = .ok (.iaload, 1) := by decide +kernel
theorem dX9_again_53 : decode cX9_again 53 = .ok (.iastore, 1) := by decide +kernel
theorem dX9_again_54 : decode cX9_again 54 = .ok (.iinc 2 1, 3) := by decide +kernel
theorem dX9_again_57 : decode cX9_again 57 = .ok (.goto (-26), 3) := by decide +kernel
theorem dX9_again_60 : decode cX9_again 60 = .ok (.aload_n 0, 1) := by decide +kernel
theorem dX9_again_61 : decode cX9_again 61 = .ok (.iconst 0, 1) := by decide +kernel
theorem dX9_again_62 : decode cX9_again 62 = .ok (.putfield 137, 3) := by decide +kernel
theorem dX9_again_65 : decode cX9_again 65 = .ok (.aload_n 0, 1) := by decide +kernel
theorem dX9_again_66 : decode cX9_again 66 = .ok (.getfield 34, 3) := by decide +kernel
theorem dX9_again_69 : decode cX9_again 69 = .ok (.bipush 35, 2) := by decide +kernel
theorem dX9_again_71 : decode cX9_again 71 = .ok (.iaload, 1) := by decide +kernel
theorem dX9_again_72 : decode cX9_again 72 = .ok (.ireturn, 1) := by decide +kernel
theorem zd_X9_again : yX9_again.cls ≠ "java/lang/invoke/MethodHandle" ∧ yX9_again.cls ≠ "java/lang/invoke/VarHandle" ∧ (parseMethodDescriptor yX9_again.desc).map (fun d => d.parameters.length) = some 1 := by decide +kernel
set_option maxHeartbeats 4000000 in
set_option maxRecDepth 100000 in
theorem zc_X9_again (l : Launch) (D : va_G) (cI cZ : ClassId) (M : Nat) (th : Int32) (mtx : Nat) (len : Nat) (pl : Nat) (rt : Int32) (fr : Int32) (pr : Int32) (mod_ : Nat) (n : Nat) (mne : Nat) (mro : Nat) (m : Nat) (rrt : Int32) (rfr : Int32) (rpr : Int32) (mrod : Nat) (rn9 : Nat) (mrne : Nat) (mrro : Nat) (rm9 : Nat) (mrp : Nat) (mpg : Nat) (mbk : Nat) (ac : Nat) (mke : Nat) (mik : Nat) (cr : Nat) (mrw : Nat) (mrd : Nat) (sd : Int64) (mtr : Nat) (mwo : Nat) (mnx : Nat) (jr : Int32) (g : Nat → Int32) (ke : Nat → Int32) (kf : Nat → Int32) (x1 : Int32) : zI l yX9_again cX9_again 3 .int 1 25 D cI cZ [.ref M, .int x1] [(M, .inr (9, [.int th, .ref mtx, .int (nI len), .int (nI pl), .int rt, .int fr, .int pr, .ref mod_, .int (nI n), .ref mne, .ref mro, .int (nI m), .int rrt, .int rfr, .int rpr, .ref mrod, .int (nI rn9), .ref mrne, .ref mrro, .int (nI rm9), .ref mrp, .ref mpg, .ref mbk, .int (nI ac), .ref mke, .ref mik, .int (nI cr), .ref mrw, .ref mrd, .long sd, .ref mtr, .ref mwo, .ref mnx, .int jr])), (mpg, .inl (cI, 36, .inl g)), (mke, .inl (cI, 72, .inl ke)), (mik, .inl (cZ, 2, .inl kf))] (fun (r : Int32) (u : Unit) => r = zPa 2 x1 (fun k => if kf k = 0 then -3 else va_cpy ke g (36 * k) 0 36 35) (-1)) (fun (u : Unit) => [(M, .inr (9, [.int (nI 0), .ref mtx, .int (nI len), .int (nI pl), .int rt, .int fr, .int pr, .ref mod_, .int (nI n), .ref mne, .ref mro, .int (nI m), .int rrt, .int rfr, .int rpr, .ref mrod, .int (nI rn9), .ref mrne, .ref mrro, .int (nI rm9), .ref mrp, .ref mpg, .ref mbk, .int (nI (zPa 2 x1 (fun k => if kf k = 0 then ac else 0) ac)), .ref mke, .ref mik, .int (nI cr), .ref mrw, .ref mrd, .long sd, .ref mtr, .ref mwo, .ref mnx, .int jr])), (mpg, .inl (cI, 36, .inl (zPa 2 x1 (fun k => if kf k = 0 then g else va_cpy ke g (36 * k) 0 36) g))), (mke, .inl (cI, 72, .inl ke)), (mik, .inl (cZ, 2, .inl kf))]) := by
  refine zI_of (by decide) (Nat.le_of_ble_eq_true rfl) ?_
  intro pP eE sS mM aA bB mT cC A ls Z hP hD hS hl
  have hx := Z.1
  have hb := Z.2.1
  have hown := Z.2.2.2.2.2.1
  have hts := Z.2.2.2.2.1
  have Z : zAt pP sS mM aA mT cC D cI cZ A "SurpriseTaxModel" cX9_again 3 (some .int) := Z
  have hl : lv_has ls 3 [(0, .ref M), (1, .int x1)] := hl
  obtain ⟨H, hH⟩ : ∃ H, H = sS.heap := ⟨_, rfl⟩
  have hP : va_P D vwCl [(M, .inr (9, [.int th, .ref mtx, .int (nI len), .int (nI pl), .int rt, .int fr, .int pr, .ref mod_, .int (nI n), .ref mne, .ref mro, .int (nI m), .int rrt, .int rfr, .int rpr, .ref mrod, .int (nI rn9), .ref mrne, .ref mrro, .int (nI rm9), .ref mrp, .ref mpg, .ref mbk, .int (nI ac), .ref mke, .ref mik, .int (nI cr), .ref mrw, .ref mrd, .long sd, .ref mtr, .ref mwo, .ref mnx, .int jr])), (mpg, .inl (cI, 36, .inl g)), (mke, .inl (cI, 72, .inl ke)), (mik, .inl (cZ, 2, .inl kf))] H := by rw [hH]; exact hP
  have hS : va_S A sS.heap H [] := by rw [hH]; exact hS
  rw [← hH]
  clear hH
  obtain ⟨locs, hlo⟩ : ∃ q : List Loc, q = [] := ⟨_, rfl⟩
  rw [← hlo] at hS ⊢
  clear hlo
  refine lv_aload_n hx hb dX9_again_0 rfl (lv_at hl 0 rfl) ?_
  refine lv_iconst (v := nI 0) hx hb dX9_again_1 (by decide) ?_
  refine z_put (ci := 9) (v := .int (nI 0)) Z zin9 tyX9 tyX9_ok nmX9 hP hD hS 0 rfl rfl 0 (by decide) zm677 rfl rfl rfl rfl (Nat.le_of_ble_eq_true rfl) dX9_again_2 (fun H locs hP hD hS => ?_)
  have hP : va_P D vwCl [(M, .inr (9, [.int (nI 0), .ref mtx, .int (nI len), .int (nI pl), .int rt, .int fr, .int pr, .ref mod_, .int (nI n), .ref mne, .ref mro, .int (nI m), .int rrt, .int rfr, .int rpr, .ref mrod, .int (nI rn9), .ref mrne, .ref mrro, .int (nI rm9), .ref mrp, .ref mpg, .ref mbk, .int (nI ac), .ref mke, .ref mik, .int (nI cr), .ref mrw, .ref mrd, .long sd, .ref mtr, .ref mwo, .ref mnx, .int jr])), (mpg, .inl (cI, 36, .inl g)), (mke, .inl (cI, 72, .inl ke)), (mik, .inl (cZ, 2, .inl kf))] H := hP
  have hD : va_D A [(M, .inr (9, [.int (nI 0), .ref mtx, .int (nI len), .int (nI pl), .int rt, .int fr, .int pr, .ref mod_, .int (nI n), .ref mne, .ref mro, .int (nI m), .int rrt, .int rfr, .int rpr, .ref mrod, .int (nI rn9), .ref mrne, .ref mrro, .int (nI rm9), .ref mrp, .ref mpg, .ref mbk, .int (nI ac), .ref mke, .ref mik, .int (nI cr), .ref mrw, .ref mrd, .long sd, .ref mtr, .ref mwo, .ref mnx, .int jr])), (mpg, .inl (cI, 36, .inl g)), (mke, .inl (cI, 72, .inl ke)), (mik, .inl (cZ, 2, .inl kf))] := hD
  refine lv_iload_n hx hb dX9_again_5 rfl (lv_at hl 1 rfl) ?_
  refine lv_i2l (v := x1.toInt64) hx hb dX9_again_6 rfl ?_
  refine lv_lconst (v := 0) hx hb dX9_again_7 (by decide) ?_
  refine lv_lconst (v := 1) hx hb dX9_again_8 (by decide) ?_
  refine z_callSi (As := [.long x1.toInt64, .long 0, .long 1]) (rest := []) Z hP hD hS hl.1 (zc_X9_in l D cI cZ x1.toInt64 0 1 ) zm750 zm751 zm39 zm752 zd_X9_in ⟨Nat.le_of_ble_eq_true rfl, Nat.le_of_ble_eq_true rfl⟩ ⟨Nat.zero_le _, Nat.zero_le _⟩ [] rfl (by decide) (fun _ => rfl) rfl (Nat.le_of_ble_eq_true rfl) rfl dX9_again_9 (fun r_1 u H locs h_2 hP hD hS => ?_)
  have hP : va_P D vwCl [(M, .inr (9, [.int (nI 0), .ref mtx, .int (nI len), .int (nI pl), .int rt, .int fr, .int pr, .ref mod_, .int (nI n), .ref mne, .ref mro, .int (nI m), .int rrt, .int rfr, .int rpr, .ref mrod, .int (nI rn9), .ref mrne, .ref mrro, .int (nI rm9), .ref mrp, .ref mpg, .ref mbk, .int (nI ac), .ref mke, .ref mik, .int (nI cr), .ref mrw, .ref mrd, .long sd, .ref mtr, .ref mwo, .ref mnx, .int jr])), (mpg, .inl (cI, 36, .inl g)), (mke, .inl (cI, 72, .inl ke)), (mik, .inl (cZ, 2, .inl kf))] H := hP
  have hD : va_D A [(M, .inr (9, [.int (nI 0), .ref mtx, .int (nI len), .int (nI pl), .int rt, .int fr, .int pr, .ref mod_, .int (nI n), .ref mne, .ref mro, .int (nI m), .int rrt, .int rfr, .int rpr, .ref mrod, .int (nI rn9), .ref mrne, .ref mrro, .int (nI rm9), .ref mrp, .ref mpg, .ref mbk, .int (nI ac), .ref mke, .ref mik, .int (nI cr), .ref mrw, .ref mrd, .long sd, .ref mtr, .ref mwo, .ref mnx, .int jr])), (mpg, .inl (cI, 36, .inl g)), (mke, .inl (cI, 72, .inl ke)), (mik, .inl (cZ, 2, .inl kf))] := hD
  have h_2 : r_1 = if ¬ x1.toInt64 < 0 ∧ ¬ 1 < x1.toInt64 then 1 else 0 := h_2
  subst h_2
  refine lv_if_ne (tgt := 17) hx hb dX9_again_12 (by decide) (fun c_3 => ?_) (fun c_3 => ?_)
  · have c_3 := zb1 c_3
    have hrg := (zinr (x := x1) 0 1 rfl rfl).mp c_3
    obtain ⟨k, hk0, hk1, rfl⟩ := zRa_of (lo := 0) (hi := 1) (by decide) (by decide) hrg.1 hrg.2
    have hk2 : k < 2 := by omega
    refine lv_aload_n hx hb dX9_again_17 rfl (lv_at hl 0 rfl) ?_
    refine z_get (ci := 9) (v := .ref mik) Z zin9 hP 0 rfl rfl 25 (by decide) zm702 rfl rfl dX9_again_18 ?_
    refine lv_iload_n hx hb dX9_again_21 rfl (lv_at hl 1 rfl) ?_
    refine z_zald (n := 2) (f := kf) (j := k) Z hP 3 rfl (by omega) (by decide) dX9_again_22 ?_
    refine lv_if_ne (tgt := 29) hx hb dX9_again_23 (by decide) (fun c_4 => ?_) (fun c_4 => ?_)
    · have c_4 : ¬ ((kf k) = 0) := c_4
      refine lv_iconst (v := nI 0) hx hb dX9_again_29 (by decide) ?_
      refine lv_istore_n (lv' := [(2, .int (nI 0)), (0, .ref M), (1, .int (nI k))]) hx hb dX9_again_30 rfl hl (by decide) rfl (fun ls hl => ?_)
      have e_6 : g = va_cpy ke g (36 * k) 0 0 := by first | rw [zcpyT_0] | rfl
      have hP : va_P D vwCl [(M, .inr (9, [.int (nI 0), .ref mtx, .int (nI len), .int (nI pl), .int rt, .int fr, .int pr, .ref mod_, .int (nI n), .ref mne, .ref mro, .int (nI m), .int rrt, .int rfr, .int rpr, .ref mrod, .int (nI rn9), .ref mrne, .ref mrro, .int (nI rm9), .ref mrp, .ref mpg, .ref mbk, .int (nI ac), .ref mke, .ref mik, .int (nI cr), .ref mrw, .ref mrd, .long sd, .ref mtr, .ref mwo, .ref mnx, .int jr])), (mpg, .inl (cI, 36, .inl (va_cpy ke g (36 * k) 0 0))), (mke, .inl (cI, 72, .inl ke)), (mik, .inl (cZ, 2, .inl kf))] H := Eq.subst (motive := fun zz_ => va_P D vwCl [(M, .inr (9, [.int (nI 0), .ref mtx, .int (nI len), .int (nI pl), .int rt, .int fr, .int pr, .ref mod_, .int (nI n), .ref mne, .ref mro, .int (nI m), .int rrt, .int rfr, .int rpr, .ref mrod, .int (nI rn9), .ref mrne, .ref mrro, .int (nI rm9), .ref mrp, .ref mpg, .ref mbk, .int (nI ac), .ref mke, .ref mik, .int (nI cr), .ref mrw, .ref mrd, .long sd, .ref mtr, .ref mwo, .ref mnx, .int jr])), (mpg, .inl (cI, 36, .inl zz_)), (mke, .inl (cI, 72, .inl ke)), (mik, .inl (cZ, 2, .inl kf))] H) e_6 hP
      have hD : va_D A [(M, .inr (9, [.int (nI 0), .ref mtx, .int (nI len), .int (nI pl), .int rt, .int fr, .int pr, .ref mod_, .int (nI n), .ref mne, .ref mro, .int (nI m), .int rrt, .int rfr, .int rpr, .ref mrod, .int (nI rn9), .ref mrne, .ref mrro, .int (nI rm9), .ref mrp, .ref mpg, .ref mbk, .int (nI ac), .ref mke, .ref mik, .int (nI cr), .ref mrw, .ref mrd, .long sd, .ref mtr, .ref mwo, .ref mnx, .int jr])), (mpg, .inl (cI, 36, .inl (va_cpy ke g (36 * k) 0 0))), (mke, .inl (cI, 72, .inl ke)), (mik, .inl (cZ, 2, .inl kf))] := zD_of hD rfl
      have hl : lv_has ls 3 [(2, .int (nI 0)), (0, .ref M), (1, .int (nI k))] := lv_sub hl [0, 1, 2] rfl
      refine z_loop (fun i H locs ls => va_P D vwCl [(M, .inr (9, [.int (nI 0), .ref mtx, .int (nI len), .int (nI pl), .int rt, .int fr, .int pr, .ref mod_, .int (nI n), .ref mne, .ref mro, .int (nI m), .int rrt, .int rfr, .int rpr, .ref mrod, .int (nI rn9), .ref mrne, .ref mrro, .int (nI rm9), .ref mrp, .ref mpg, .ref mbk, .int (nI ac), .ref mke, .ref mik, .int (nI cr), .ref mrw, .ref mrd, .long sd, .ref mtr, .ref mwo, .ref mnx, .int jr])), (mpg, .inl (cI, 36, .inl (va_cpy ke g (36 * k) 0 i))), (mke, .inl (cI, 72, .inl ke)), (mik, .inl (cZ, 2, .inl kf))] H ∧ va_D A [(M, .inr (9, [.int (nI 0), .ref mtx, .int (nI len), .int (nI pl), .int rt, .int fr, .int pr, .ref mod_, .int (nI n), .ref mne, .ref mro, .int (nI m), .int rrt, .int rfr, .int rpr, .ref mrod, .int (nI rn9), .ref mrne, .ref mrro, .int (nI rm9), .ref mrp, .ref mpg, .ref mbk, .int (nI ac), .ref mke, .ref mik, .int (nI cr), .ref mrw, .ref mrd, .long sd, .ref mtr, .ref mwo, .ref mnx, .int jr])), (mpg, .inl (cI, 36, .inl (va_cpy ke g (36 * k) 0 i))), (mke, .inl (cI, 72, .inl ke)), (mik, .inl (cZ, 2, .inl kf))] ∧ va_S A sS.heap H locs ∧ lv_has ls 3 [(2, .int (nI i)), (0, .ref M), (1, .int (nI k))]) (36) (lo := 0) (by omega) ⟨hP, hD, hS, hl⟩ (fun i hi_i ih_5 H locs ls hI => ?_)
      obtain ⟨hP, hD, hS, hl⟩ := hI
      have hP : va_P D vwCl [(M, .inr (9, [.int (nI 0), .ref mtx, .int (nI len), .int (nI pl), .int rt, .int fr, .int pr, .ref mod_, .int (nI n), .ref mne, .ref mro, .int (nI m), .int rrt, .int rfr, .int rpr, .ref mrod, .int (nI rn9), .ref mrne, .ref mrro, .int (nI rm9), .ref mrp, .ref mpg, .ref mbk, .int (nI ac), .ref mke, .ref mik, .int (nI cr), .ref mrw, .ref mrd, .long sd, .ref mtr, .ref mwo, .ref mnx, .int jr])), (mpg, .inl (cI, 36, .inl (va_cpy ke g (36 * k) 0 i))), (mke, .inl (cI, 72, .inl ke)), (mik, .inl (cZ, 2, .inl kf))] H := hP
      have hD : va_D A [(M, .inr (9, [.int (nI 0), .ref mtx, .int (nI len), .int (nI pl), .int rt, .int fr, .int pr, .ref mod_, .int (nI n), .ref mne, .ref mro, .int (nI m), .int rrt, .int rfr, .int rpr, .ref mrod, .int (nI rn9), .ref mrne, .ref mrro, .int (nI rm9), .ref mrp, .ref mpg, .ref mbk, .int (nI ac), .ref mke, .ref mik, .int (nI cr), .ref mrw, .ref mrd, .long sd, .ref mtr, .ref mwo, .ref mnx, .int jr])), (mpg, .inl (cI, 36, .inl (va_cpy ke g (36 * k) 0 i))), (mke, .inl (cI, 72, .inl ke)), (mik, .inl (cZ, 2, .inl kf))] := hD
      have hl : lv_has ls 3 [(2, .int (nI i)), (0, .ref M), (1, .int (nI k))] := hl
      refine lv_iload_n hx hb dX9_again_31 rfl (lv_at hl 0 rfl) ?_
      refine lv_bipush (v := nI 36) hx hb dX9_again_32 (by decide) ?_
      refine lv_icmp_ge (tgt := 60) hx hb dX9_again_34 (by decide) (fun c_7 => ?_) (fun c_7 => ?_)
      · have c_7 := zle (i := 36) (j := i) (by decide) (by omega) c_7
        have hE_ : 36 = i := by omega
        subst hE_
        refine lv_aload_n hx hb dX9_again_60 rfl (lv_at hl 1 rfl) ?_
        refine lv_iconst (v := nI 0) hx hb dX9_again_61 (by decide) ?_
        refine z_put (ci := 9) (v := .int (nI 0)) Z zin9 tyX9 tyX9_ok nmX9 hP hD hS 0 rfl rfl 23 (by decide) zm700 rfl rfl rfl rfl (Nat.le_of_ble_eq_true rfl) dX9_again_62 (fun H locs hP hD hS => ?_)
        have hP : va_P D vwCl [(M, .inr (9, [.int (nI 0), .ref mtx, .int (nI len), .int (nI pl), .int rt, .int fr, .int pr, .ref mod_, .int (nI n), .ref mne, .ref mro, .int (nI m), .int rrt, .int rfr, .int rpr, .ref mrod, .int (nI rn9), .ref mrne, .ref mrro, .int (nI rm9), .ref mrp, .ref mpg, .ref mbk, .int (nI 0), .ref mke, .ref mik, .int (nI cr), .ref mrw, .ref mrd, .long sd, .ref mtr, .ref mwo, .ref mnx, .int jr])), (mpg, .inl (cI, 36, .inl (va_cpy ke g (36 * k) 0 36))), (mke, .inl (cI, 72, .inl ke)), (mik, .inl (cZ, 2, .inl kf))] H := hP
        have hD : va_D A [(M, .inr (9, [.int (nI 0), .ref mtx, .int (nI len), .int (nI pl), .int rt, .int fr, .int pr, .ref mod_, .int (nI n), .ref mne, .ref mro, .int (nI m), .int rrt, .int rfr, .int rpr, .ref mrod, .int (nI rn9), .ref mrne, .ref mrro, .int (nI rm9), .ref mrp, .ref mpg, .ref mbk, .int (nI 0), .ref mke, .ref mik, .int (nI cr), .ref mrw, .ref mrd, .long sd, .ref mtr, .ref mwo, .ref mnx, .int jr])), (mpg, .inl (cI, 36, .inl (va_cpy ke g (36 * k) 0 36))), (mke, .inl (cI, 72, .inl ke)), (mik, .inl (cZ, 2, .inl kf))] := hD
        refine lv_aload_n hx hb dX9_again_65 rfl (lv_at hl 1 rfl) ?_
        refine z_get (ci := 9) (v := .ref mpg) Z zin9 hP 0 rfl rfl 21 (by decide) zm698 rfl rfl dX9_again_66 ?_
        refine lv_bipush (v := nI 35) hx hb dX9_again_69 (by decide) ?_
        refine z_iald (n := 36) (f := va_cpy ke g (36 * k) 0 36) (j := 35) Z hP 1 rfl (by decide) (by decide) dX9_again_71 ?_
        have e_8 : nI 0 = nI (zPa 2 (nI k) (fun k => if kf k = 0 then ac else 0) ac) := by first | rw [zPa_n (fun q => hrgn (zhas2_r q))] | (rw [zPa_y hk2 (by decide)]; first | rw [if_pos (by assumption)] | rw [if_neg (by assumption)]) | rw [zPa_y hk2 (by decide)] | rfl
        have hP : va_P D vwCl [(M, .inr (9, [.int (nI 0), .ref mtx, .int (nI len), .int (nI pl), .int rt, .int fr, .int pr, .ref mod_, .int (nI n), .ref mne, .ref mro, .int (nI m), .int rrt, .int rfr, .int rpr, .ref mrod, .int (nI rn9), .ref mrne, .ref mrro, .int (nI rm9), .ref mrp, .ref mpg, .ref mbk, .int (nI (zPa 2 (nI k) (fun k => if kf k = 0 then ac else 0) ac)), .ref mke, .ref mik, .int (nI cr), .ref mrw, .ref mrd, .long sd, .ref mtr, .ref mwo, .ref mnx, .int jr])), (mpg, .inl (cI, 36, .inl (va_cpy ke g (36 * k) 0 36))), (mke, .inl (cI, 72, .inl ke)), (mik, .inl (cZ, 2, .inl kf))] H := Eq.subst (motive := fun zz_ => va_P D vwCl [(M, .inr (9, [.int (nI 0), .ref mtx, .int (nI len), .int (nI pl), .int rt, .int fr, .int pr, .ref mod_, .int (nI n), .ref mne, .ref mro, .int (nI m), .int rrt, .int rfr, .int rpr, .ref mrod, .int (nI rn9), .ref mrne, .ref mrro, .int (nI rm9), .ref mrp, .ref mpg, .ref mbk, .int zz_, .ref mke, .ref mik, .int (nI cr), .ref mrw, .ref mrd, .long sd, .ref mtr, .ref mwo, .ref mnx, .int jr])), (mpg, .inl (cI, 36, .inl (va_cpy ke g (36 * k) 0 36))), (mke, .inl (cI, 72, .inl ke)), (mik, .inl (cZ, 2, .inl kf))] H) e_8 hP
        have e_9 : va_cpy ke g (36 * k) 0 36 = zPa 2 (nI k) (fun k => if kf k = 0 then g else va_cpy ke g (36 * k) 0 36) g := by first | rw [zPa_n (fun q => hrgn (zhas2_r q))] | (rw [zPa_y hk2 (by decide)]; first | rw [if_pos (by assumption)] | rw [if_neg (by assumption)]) | rw [zPa_y hk2 (by decide)] | rfl
        have hP : va_P D vwCl [(M, .inr (9, [.int (nI 0), .ref mtx, .int (nI len), .int (nI pl), .int rt, .int fr, .int pr, .ref mod_, .int (nI n), .ref mne, .ref mro, .int (nI m), .int rrt, .int rfr, .int rpr, .ref mrod, .int (nI rn9), .ref mrne, .ref mrro, .int (nI rm9), .ref mrp, .ref mpg, .ref mbk, .int (nI (zPa 2 (nI k) (fun k => if kf k = 0 then ac else 0) ac)), .ref mke, .ref mik, .int (nI cr), .ref mrw, .ref mrd, .long sd, .ref mtr, .ref mwo, .ref mnx, .int jr])), (mpg, .inl (cI, 36, .inl (zPa 2 (nI k) (fun k => if kf k = 0 then g else va_cpy ke g (36 * k) 0 36) g))), (mke, .inl (cI, 72, .inl ke)), (mik, .inl (cZ, 2, .inl kf))] H := Eq.subst (motive := fun zz_ => va_P D vwCl [(M, .inr (9, [.int (nI 0), .ref mtx, .int (nI len), .int (nI pl), .int rt, .int fr, .int pr, .ref mod_, .int (nI n), .ref mne, .ref mro, .int (nI m), .int rrt, .int rfr, .int rpr, .ref mrod, .int (nI rn9), .ref mrne, .ref mrro, .int (nI rm9), .ref mrp, .ref mpg, .ref mbk, .int (nI (zPa 2 (nI k) (fun k => if kf k = 0 then ac else 0) ac)), .ref mke, .ref mik, .int (nI cr), .ref mrw, .ref mrd, .long sd, .ref mtr, .ref mwo, .ref mnx, .int jr])), (mpg, .inl (cI, 36, .inl zz_)), (mke, .inl (cI, 72, .inl ke)), (mik, .inl (cZ, 2, .inl kf))] H) e_9 hP
        have hD : va_D A [(M, .inr (9, [.int (nI 0), .ref mtx, .int (nI len), .int (nI pl), .int rt, .int fr, .int pr, .ref mod_, .int (nI n), .ref mne, .ref mro, .int (nI m), .int rrt, .int rfr, .int rpr, .ref mrod, .int (nI rn9), .ref mrne, .ref mrro, .int (nI rm9), .ref mrp, .ref mpg, .ref mbk, .int (nI (zPa 2 (nI k) (fun k => if kf k = 0 then ac else 0) ac)), .ref mke, .ref mik, .int (nI cr), .ref mrw, .ref mrd, .long sd, .ref mtr, .ref mwo, .ref mnx, .int jr])), (mpg, .inl (cI, 36, .inl (zPa 2 (nI k) (fun k => if kf k = 0 then g else va_cpy ke g (36 * k) 0 36) g))), (mke, .inl (cI, 72, .inl ke)), (mik, .inl (cZ, 2, .inl kf))] := zD_of hD rfl
        exact z_iret Z () (by first | rw [zPa_n (fun q => hrgn (zhas2_r q))] | (rw [zPa_y hk2 (by decide)]; first | rw [if_pos (by assumption)] | rw [if_neg (by assumption)]) | rw [zPa_y hk2 (by decide)] | rfl) hP hS dX9_again_72
      · have c_7 := znle (i := 36) (j := i) (by decide) (by omega) c_7
        refine lv_aload_n hx hb dX9_again_37 rfl (lv_at hl 1 rfl) ?_
        refine z_get (ci := 9) (v := .ref mpg) Z zin9 hP 0 rfl rfl 21 (by decide) zm698 rfl rfl dX9_again_38 ?_
        refine lv_iload_n hx hb dX9_again_41 rfl (lv_at hl 0 rfl) ?_
        refine lv_aload_n hx hb dX9_again_42 rfl (lv_at hl 1 rfl) ?_
        refine z_get (ci := 9) (v := .ref mke) Z zin9 hP 0 rfl rfl 24 (by decide) zm701 rfl rfl dX9_again_43 ?_
        refine lv_bipush (v := nI 36) hx hb dX9_again_46 (by decide) ?_
        refine lv_iload_n hx hb dX9_again_48 rfl (lv_at hl 2 rfl) ?_
        refine lv_imul hx hb dX9_again_49 ?_
        refine z_top (y := nI (36 * k)) (z_mul _ _) ?_
        refine lv_iload_n hx hb dX9_again_50 rfl (lv_at hl 0 rfl) ?_
        refine lv_iadd hx hb dX9_again_51 ?_
        refine z_top (y := nI (36 * k + i)) (z_add _ _) ?_
        refine z_iald (n := 72) (f := ke) (j := 36 * k + i) Z hP 2 rfl (by omega) (by decide) dX9_again_52 ?_
        refine z_iast (n := 36) (f := va_cpy ke g (36 * k) 0 i) (j := i) (x := ke (36 * k + i)) Z hP hD hS 1 rfl (by omega) (by decide) dX9_again_53 (fun H locs hP hD hS => ?_)
        have hP : va_P D vwCl [(M, .inr (9, [.int (nI 0), .ref mtx, .int (nI len), .int (nI pl), .int rt, .int fr, .int pr, .ref mod_, .int (nI n), .ref mne, .ref mro, .int (nI m), .int rrt, .int rfr, .int rpr, .ref mrod, .int (nI rn9), .ref mrne, .ref mrro, .int (nI rm9), .ref mrp, .ref mpg, .ref mbk, .int (nI ac), .ref mke, .ref mik, .int (nI cr), .ref mrw, .ref mrd, .long sd, .ref mtr, .ref mwo, .ref mnx, .int jr])), (mpg, .inl (cI, 36, .inl (upd (va_cpy ke g (36 * k) 0 i) i (ke (36 * k + i))))), (mke, .inl (cI, 72, .inl ke)), (mik, .inl (cZ, 2, .inl kf))] H := hP
        have hD : va_D A [(M, .inr (9, [.int (nI 0), .ref mtx, .int (nI len), .int (nI pl), .int rt, .int fr, .int pr, .ref mod_, .int (nI n), .ref mne, .ref mro, .int (nI m), .int rrt, .int rfr, .int rpr, .ref mrod, .int (nI rn9), .ref mrne, .ref mrro, .int (nI rm9), .ref mrp, .ref mpg, .ref mbk, .int (nI ac), .ref mke, .ref mik, .int (nI cr), .ref mrw, .ref mrd, .long sd, .ref mtr, .ref mwo, .ref mnx, .int jr])), (mpg, .inl (cI, 36, .inl (upd (va_cpy ke g (36 * k) 0 i) i (ke (36 * k + i))))), (mke, .inl (cI, 72, .inl ke)), (mik, .inl (cZ, 2, .inl kf))] := hD
        refine lv_iinc (v := nI (i + 1)) (lv' := [(2, .int (nI (i + 1))), (0, .ref M), (1, .int (nI k))]) hx hb dX9_again_54 hl (k := 0) rfl (z_inc _ 1) (by decide) rfl (fun ls hl => ?_)
        refine lv_goto (tgt := 31) hx hb dX9_again_57 (by decide) ?_
        have e_10 : upd (va_cpy ke g (36 * k) 0 i) i (ke (36 * k + i)) = va_cpy ke g (36 * k) 0 (i + 1) := by first | exact zcpyT_d0 _ _ _ _ | rfl
        have hP : va_P D vwCl [(M, .inr (9, [.int (nI 0), .ref mtx, .int (nI len), .int (nI pl), .int rt, .int fr, .int pr, .ref mod_, .int (nI n), .ref mne, .ref mro, .int (nI m), .int rrt, .int rfr, .int rpr, .ref mrod, .int (nI rn9), .ref mrne, .ref mrro, .int (nI rm9), .ref mrp, .ref mpg, .ref mbk, .int (nI ac), .ref mke, .ref mik, .int (nI cr), .ref mrw, .ref mrd, .long sd, .ref mtr, .ref mwo, .ref mnx, .int jr])), (mpg, .inl (cI, 36, .inl (va_cpy ke g (36 * k) 0 (i + 1)))), (mke, .inl (cI, 72, .inl ke)), (mik, .inl (cZ, 2, .inl kf))] H := Eq.subst (motive := fun zz_ => va_P D vwCl [(M, .inr (9, [.int (nI 0), .ref mtx, .int (nI len), .int (nI pl), .int rt, .int fr, .int pr, .ref mod_, .int (nI n), .ref mne, .ref mro, .int (nI m), .int rrt, .int rfr, .int rpr, .ref mrod, .int (nI rn9), .ref mrne, .ref mrro, .int (nI rm9), .ref mrp, .ref mpg, .ref mbk, .int (nI ac), .ref mke, .ref mik, .int (nI cr), .ref mrw, .ref mrd, .long sd, .ref mtr, .ref mwo, .ref mnx, .int jr])), (mpg, .inl (cI, 36, .inl zz_)), (mke, .inl (cI, 72, .inl ke)), (mik, .inl (cZ, 2, .inl kf))] H) e_10 hP
        have hD : va_D A [(M, .inr (9, [.int (nI 0), .ref mtx, .int (nI len), .int (nI pl), .int rt, .int fr, .int pr, .ref mod_, .int (nI n), .ref mne, .ref mro, .int (nI m), .int rrt, .int rfr, .int rpr, .ref mrod, .int (nI rn9), .ref mrne, .ref mrro, .int (nI rm9), .ref mrp, .ref mpg, .ref mbk, .int (nI ac), .ref mke, .ref mik, .int (nI cr), .ref mrw, .ref mrd, .long sd, .ref mtr, .ref mwo, .ref mnx, .int jr])), (mpg, .inl (cI, 36, .inl (va_cpy ke g (36 * k) 0 (i + 1)))), (mke, .inl (cI, 72, .inl ke)), (mik, .inl (cZ, 2, .inl kf))] := zD_of hD rfl
        have hl : lv_has ls 3 [(2, .int (nI (i + 1))), (0, .ref M), (1, .int (nI k))] := lv_sub hl [0, 1, 2] rfl
        exact ih_5 _ _ _ (by omega) ⟨hP, hD, hS, hl⟩
    · have c_4 : (kf k) = 0 := c_4
      refine lv_bipush (v := -3) hx hb dX9_again_26 (by decide) ?_
      have e_11 : nI ac = nI (zPa 2 (nI k) (fun k => if kf k = 0 then ac else 0) ac) := by first | rw [zPa_n (fun q => hrgn (zhas2_r q))] | (rw [zPa_y hk2 (by decide)]; first | rw [if_pos (by assumption)] | rw [if_neg (by assumption)]) | rw [zPa_y hk2 (by decide)] | rfl
      have hP : va_P D vwCl [(M, .inr (9, [.int (nI 0), .ref mtx, .int (nI len), .int (nI pl), .int rt, .int fr, .int pr, .ref mod_, .int (nI n), .ref mne, .ref mro, .int (nI m), .int rrt, .int rfr, .int rpr, .ref mrod, .int (nI rn9), .ref mrne, .ref mrro, .int (nI rm9), .ref mrp, .ref mpg, .ref mbk, .int (nI (zPa 2 (nI k) (fun k => if kf k = 0 then ac else 0) ac)), .ref mke, .ref mik, .int (nI cr), .ref mrw, .ref mrd, .long sd, .ref mtr, .ref mwo, .ref mnx, .int jr])), (mpg, .inl (cI, 36, .inl g)), (mke, .inl (cI, 72, .inl ke)), (mik, .inl (cZ, 2, .inl kf))] H := Eq.subst (motive := fun zz_ => va_P D vwCl [(M, .inr (9, [.int (nI 0), .ref mtx, .int (nI len), .int (nI pl), .int rt, .int fr, .int pr, .ref mod_, .int (nI n), .ref mne, .ref mro, .int (nI m), .int rrt, .int rfr, .int rpr, .ref mrod, .int (nI rn9), .ref mrne, .ref mrro, .int (nI rm9), .ref mrp, .ref mpg, .ref mbk, .int zz_, .ref mke, .ref mik, .int (nI cr), .ref mrw, .ref mrd, .long sd, .ref mtr, .ref mwo, .ref mnx, .int jr])), (mpg, .inl (cI, 36, .inl g)), (mke, .inl (cI, 72, .inl ke)), (mik, .inl (cZ, 2, .inl kf))] H) e_11 hP
      have e_12 : g = zPa 2 (nI k) (fun k => if kf k = 0 then g else va_cpy ke g (36 * k) 0 36) g := by first | rw [zPa_n (fun q => hrgn (zhas2_r q))] | (rw [zPa_y hk2 (by decide)]; first | rw [if_pos (by assumption)] | rw [if_neg (by assumption)]) | rw [zPa_y hk2 (by decide)] | rfl
      have hP : va_P D vwCl [(M, .inr (9, [.int (nI 0), .ref mtx, .int (nI len), .int (nI pl), .int rt, .int fr, .int pr, .ref mod_, .int (nI n), .ref mne, .ref mro, .int (nI m), .int rrt, .int rfr, .int rpr, .ref mrod, .int (nI rn9), .ref mrne, .ref mrro, .int (nI rm9), .ref mrp, .ref mpg, .ref mbk, .int (nI (zPa 2 (nI k) (fun k => if kf k = 0 then ac else 0) ac)), .ref mke, .ref mik, .int (nI cr), .ref mrw, .ref mrd, .long sd, .ref mtr, .ref mwo, .ref mnx, .int jr])), (mpg, .inl (cI, 36, .inl (zPa 2 (nI k) (fun k => if kf k = 0 then g else va_cpy ke g (36 * k) 0 36) g))), (mke, .inl (cI, 72, .inl ke)), (mik, .inl (cZ, 2, .inl kf))] H := Eq.subst (motive := fun zz_ => va_P D vwCl [(M, .inr (9, [.int (nI 0), .ref mtx, .int (nI len), .int (nI pl), .int rt, .int fr, .int pr, .ref mod_, .int (nI n), .ref mne, .ref mro, .int (nI m), .int rrt, .int rfr, .int rpr, .ref mrod, .int (nI rn9), .ref mrne, .ref mrro, .int (nI rm9), .ref mrp, .ref mpg, .ref mbk, .int (nI (zPa 2 (nI k) (fun k => if kf k = 0 then ac else 0) ac)), .ref mke, .ref mik, .int (nI cr), .ref mrw, .ref mrd, .long sd, .ref mtr, .ref mwo, .ref mnx, .int jr])), (mpg, .inl (cI, 36, .inl zz_)), (mke, .inl (cI, 72, .inl ke)), (mik, .inl (cZ, 2, .inl kf))] H) e_12 hP
      have hD : va_D A [(M, .inr (9, [.int (nI 0), .ref mtx, .int (nI len), .int (nI pl), .int rt, .int fr, .int pr, .ref mod_, .int (nI n), .ref mne, .ref mro, .int (nI m), .int rrt, .int rfr, .int rpr, .ref mrod, .int (nI rn9), .ref mrne, .ref mrro, .int (nI rm9), .ref mrp, .ref mpg, .ref mbk, .int (nI (zPa 2 (nI k) (fun k => if kf k = 0 then ac else 0) ac)), .ref mke, .ref mik, .int (nI cr), .ref mrw, .ref mrd, .long sd, .ref mtr, .ref mwo, .ref mnx, .int jr])), (mpg, .inl (cI, 36, .inl (zPa 2 (nI k) (fun k => if kf k = 0 then g else va_cpy ke g (36 * k) 0 36) g))), (mke, .inl (cI, 72, .inl ke)), (mik, .inl (cZ, 2, .inl kf))] := zD_of hD rfl
      exact z_iret Z () (by first | rw [zPa_n (fun q => hrgn (zhas2_r q))] | (rw [zPa_y hk2 (by decide)]; first | rw [if_pos (by assumption)] | rw [if_neg (by assumption)]) | rw [zPa_y hk2 (by decide)] | rfl) hP hS dX9_again_28
  · have c_3 := zb0 c_3
    have hrgn := fun q => c_3 ((zinr (x := x1) 0 1 rfl rfl).mpr q)
    refine lv_iconst (v := -1) hx hb dX9_again_15 (by decide) ?_
    have e_13 : nI ac = nI (zPa 2 x1 (fun k => if kf k = 0 then ac else 0) ac) := by first | rw [zPa_n (fun q => hrgn (zhas2_r q))] | (rw [zPa_y hk2 (by decide)]; first | rw [if_pos (by assumption)] | rw [if_neg (by assumption)]) | rw [zPa_y hk2 (by decide)] | rfl
    have hP : va_P D vwCl [(M, .inr (9, [.int (nI 0), .ref mtx, .int (nI len), .int (nI pl), .int rt, .int fr, .int pr, .ref mod_, .int (nI n), .ref mne, .ref mro, .int (nI m), .int rrt, .int rfr, .int rpr, .ref mrod, .int (nI rn9), .ref mrne, .ref mrro, .int (nI rm9), .ref mrp, .ref mpg, .ref mbk, .int (nI (zPa 2 x1 (fun k => if kf k = 0 then ac else 0) ac)), .ref mke, .ref mik, .int (nI cr), .ref mrw, .ref mrd, .long sd, .ref mtr, .ref mwo, .ref mnx, .int jr])), (mpg, .inl (cI, 36, .inl g)), (mke, .inl (cI, 72, .inl ke)), (mik, .inl (cZ, 2, .inl kf))] H := Eq.subst (motive := fun zz_ => va_P D vwCl [(M, .inr (9, [.int (nI 0), .ref mtx, .int (nI len), .int (nI pl), .int rt, .int fr, .int pr, .ref mod_, .int (nI n), .ref mne, .ref mro, .int (nI m), .int rrt, .int rfr, .int rpr, .ref mrod, .int (nI rn9), .ref mrne, .ref mrro, .int (nI rm9), .ref mrp, .ref mpg, .ref mbk, .int zz_, .ref mke, .ref mik, .int (nI cr), .ref mrw, .ref mrd, .long sd, .ref mtr, .ref mwo, .ref mnx, .int jr])), (mpg, .inl (cI, 36, .inl g)), (mke, .inl (cI, 72, .inl ke)), (mik, .inl (cZ, 2, .inl kf))] H) e_13 hP
    have e_14 : g = zPa 2 x1 (fun k => if kf k = 0 then g else va_cpy ke g (36 * k) 0 36) g := by first | rw [zPa_n (fun q => hrgn (zhas2_r q))] | (rw [zPa_y hk2 (by decide)]; first | rw [if_pos (by assumption)] | rw [if_neg (by assumption)]) | rw [zPa_y hk2 (by decide)] | rfl
    have hP : va_P D vwCl [(M, .inr (9, [.int (nI 0), .ref mtx, .int (nI len), .int (nI pl), .int rt, .int fr, .int pr, .ref mod_, .int (nI n), .ref mne, .ref mro, .int (nI m), .int rrt, .int rfr, .int rpr, .ref mrod, .int (nI rn9), .ref mrne, .ref mrro, .int (nI rm9), .ref mrp, .ref mpg, .ref mbk, .int (nI (zPa 2 x1 (fun k => if kf k = 0 then ac else 0) ac)), .ref mke, .ref mik, .int (nI cr), .ref mrw, .ref mrd, .long sd, .ref mtr, .ref mwo, .ref mnx, .int jr])), (mpg, .inl (cI, 36, .inl (zPa 2 x1 (fun k => if kf k = 0 then g else va_cpy ke g (36 * k) 0 36) g))), (mke, .inl (cI, 72, .inl ke)), (mik, .inl (cZ, 2, .inl kf))] H := Eq.subst (motive := fun zz_ => va_P D vwCl [(M, .inr (9, [.int (nI 0), .ref mtx, .int (nI len), .int (nI pl), .int rt, .int fr, .int pr, .ref mod_, .int (nI n), .ref mne, .ref mro, .int (nI m), .int rrt, .int rfr, .int rpr, .ref mrod, .int (nI rn9), .ref mrne, .ref mrro, .int (nI rm9), .ref mrp, .ref mpg, .ref mbk, .int (nI (zPa 2 x1 (fun k => if kf k = 0 then ac else 0) ac)), .ref mke, .ref mik, .int (nI cr), .ref mrw, .ref mrd, .long sd, .ref mtr, .ref mwo, .ref mnx, .int jr])), (mpg, .inl (cI, 36, .inl zz_)), (mke, .inl (cI, 72, .inl ke)), (mik, .inl (cZ, 2, .inl kf))] H) e_14 hP
    have hD : va_D A [(M, .inr (9, [.int (nI 0), .ref mtx, .int (nI len), .int (nI pl), .int rt, .int fr, .int pr, .ref mod_, .int (nI n), .ref mne, .ref mro, .int (nI m), .int rrt, .int rfr, .int rpr, .ref mrod, .int (nI rn9), .ref mrne, .ref mrro, .int (nI rm9), .ref mrp, .ref mpg, .ref mbk, .int (nI (zPa 2 x1 (fun k => if kf k = 0 then ac else 0) ac)), .ref mke, .ref mik, .int (nI cr), .ref mrw, .ref mrd, .long sd, .ref mtr, .ref mwo, .ref mnx, .int jr])), (mpg, .inl (cI, 36, .inl (zPa 2 x1 (fun k => if kf k = 0 then g else va_cpy ke g (36 * k) 0 36) g))), (mke, .inl (cI, 72, .inl ke)), (mik, .inl (cZ, 2, .inl kf))] := zD_of hD rfl
    exact z_iret Z () (by first | rw [zPa_n (fun q => hrgn (zhas2_r q))] | (rw [zPa_y hk2 (by decide)]; first | rw [if_pos (by assumption)] | rw [if_neg (by assumption)]) | rw [zPa_y hk2 (by decide)] | rfl) hP hS dX9_again_16

theorem dX9_ten_0 : decode cX9_ten 0 = .ok (.iconst 1, 1) := by decide +kernel
theorem dX9_ten_1 : decode cX9_ten 1 = .ok (.istore_n 1, 1) := by decide +kernel
theorem dX9_ten_2 : decode cX9_ten 2 = .ok (.iconst 0, 1) := by decide +kernel
theorem dX9_ten_3 : decode cX9_ten 3 = .ok (.istore_n 2, 1) := by decide +kernel
theorem dX9_ten_4 : decode cX9_ten 4 = .ok (.iload_n 2, 1) := by decide +kernel
theorem dX9_ten_5 : decode cX9_ten 5 = .ok (.iload_n 0, 1) := by decide +kernel
theorem dX9_ten_6 : decode cX9_ten 6 = .ok (.if_icmp .ge 14, 3) := by decide +kernel
theorem dX9_ten_9 : decode cX9_ten 9 = .ok (.iload_n 1, 1) := by decide +kernel
theorem dX9_ten_10 : decode cX9_ten 10 = .ok (.bipush 10, 2) := by decide +kernel
theorem dX9_ten_12 : decode cX9_ten 12 = .ok (.imul, 1) := by decide +kernel
theorem dX9_ten_13 : decode cX9_ten 13 = .ok (.istore_n 1, 1) := by decide +kernel
theorem dX9_ten_14 : decode cX9_ten 14 = .ok (.iinc 2 1, 3) := by decide +kernel
theorem dX9_ten_17 : decode cX9_ten 17 = .ok (.goto (-13), 3) := by decide +kernel
theorem dX9_ten_20 : decode cX9_ten 20 = .ok (.iload_n 1, 1) := by decide +kernel
theorem dX9_ten_21 : decode cX9_ten 21 = .ok (.ireturn, 1) := by decide +kernel
theorem zd_X9_ten : yX9_ten.cls ≠ "java/lang/invoke/MethodHandle" ∧ yX9_ten.cls ≠ "java/lang/invoke/VarHandle" ∧ (parseMethodDescriptor yX9_ten.desc).map (fun d => d.parameters.length) = some 1 := by decide +kernel
set_option maxHeartbeats 4000000 in
set_option maxRecDepth 100000 in
theorem zc_X9_ten (l : Launch) (D : va_G) (cI cZ : ClassId) (d : Nat) (hd : d ≤ 8) : zI l yX9_ten cX9_ten 3 .int 0 0 D cI cZ [.int (nI d)] [] (fun (r : Int32) (u : Unit) => r = nI (10 ^ d)) (fun (u : Unit) => []) := by
  refine zI_of (by decide) (Nat.le_of_ble_eq_true rfl) ?_
  intro pP eE sS mM aA bB mT cC A ls Z hP hD hS hl
  have hx := Z.1
  have hb := Z.2.1
  have hown := Z.2.2.2.2.2.1
  have hts := Z.2.2.2.2.1
  have Z : zAt pP sS mM aA mT cC D cI cZ A "SurpriseTaxModel" cX9_ten 3 (some .int) := Z
  have hl : lv_has ls 3 [(0, .int (nI d))] := hl
  obtain ⟨H, hH⟩ : ∃ H, H = sS.heap := ⟨_, rfl⟩
  have hP : va_P D vwCl [] H := by rw [hH]; exact hP
  have hS : va_S A sS.heap H [] := by rw [hH]; exact hS
  rw [← hH]
  clear hH
  obtain ⟨locs, hlo⟩ : ∃ q : List Loc, q = [] := ⟨_, rfl⟩
  rw [← hlo] at hS ⊢
  clear hlo
  refine lv_iconst (v := nI 1) hx hb dX9_ten_0 (by decide) ?_
  refine lv_istore_n (lv' := [(1, .int (nI 1)), (0, .int (nI d))]) hx hb dX9_ten_1 rfl hl (by decide) rfl (fun ls hl => ?_)
  refine lv_iconst (v := nI 0) hx hb dX9_ten_2 (by decide) ?_
  refine lv_istore_n (lv' := [(2, .int (nI 0)), (1, .int (nI 1)), (0, .int (nI d))]) hx hb dX9_ten_3 rfl hl (by decide) rfl (fun ls hl => ?_)
  have hl : lv_has ls 3 [(2, .int (nI 0)), (1, .int (nI 1)), (0, .int (nI d))] := lv_sub hl [0, 1, 2] rfl
  have e_2 : nI 1 = nI (10 ^ 0) := by rfl
  have hl : lv_has ls 3 [(2, .int (nI 0)), (1, .int (nI (10 ^ 0))), (0, .int (nI d))] := Eq.subst (motive := fun zz_ => lv_has ls 3 [(2, .int (nI 0)), (1, .int zz_), (0, .int (nI d))]) e_2 hl
  refine z_loop (fun i H locs ls => va_P D vwCl [] H ∧ va_D A [] ∧ va_S A sS.heap H locs ∧ lv_has ls 3 [(2, .int (nI i)), (1, .int (nI (10 ^ i))), (0, .int (nI d))]) (d) (lo := 0) (by omega) ⟨hP, hD, hS, hl⟩ (fun i hi_i ih_1 H locs ls hI => ?_)
  obtain ⟨hP, hD, hS, hl⟩ := hI
  have hP : va_P D vwCl [] H := hP
  have hD : va_D A [] := hD
  have hl : lv_has ls 3 [(2, .int (nI i)), (1, .int (nI (10 ^ i))), (0, .int (nI d))] := hl
  refine lv_iload_n hx hb dX9_ten_4 rfl (lv_at hl 0 rfl) ?_
  refine lv_iload_n hx hb dX9_ten_5 rfl (lv_at hl 2 rfl) ?_
  refine lv_icmp_ge (tgt := 20) hx hb dX9_ten_6 (by decide) (fun c_3 => ?_) (fun c_3 => ?_)
  · have c_3 := zle (i := d) (j := i) (by omega) (by omega) c_3
    have hE_ : d = i := by omega
    subst hE_
    refine lv_iload_n hx hb dX9_ten_20 rfl (lv_at hl 1 rfl) ?_
    exact z_iret Z () rfl hP hS dX9_ten_21
  · have c_3 := znle (i := d) (j := i) (by omega) (by omega) c_3
    refine lv_iload_n hx hb dX9_ten_9 rfl (lv_at hl 1 rfl) ?_
    refine lv_bipush (v := nI 10) hx hb dX9_ten_10 (by decide) ?_
    refine lv_imul hx hb dX9_ten_12 ?_
    refine z_top (y := nI ((10 ^ i) * 10)) (z_mul _ _) ?_
    refine lv_istore_n (lv' := [(1, .int (nI ((10 ^ i) * 10))), (2, .int (nI i)), (0, .int (nI d))]) hx hb dX9_ten_13 rfl hl (by decide) rfl (fun ls hl => ?_)
    refine lv_iinc (v := nI (i + 1)) (lv' := [(2, .int (nI (i + 1))), (1, .int (nI ((10 ^ i) * 10))), (0, .int (nI d))]) hx hb dX9_ten_14 hl (k := 1) rfl (z_inc _ 1) (by decide) rfl (fun ls hl => ?_)
    refine lv_goto (tgt := 4) hx hb dX9_ten_17 (by decide) ?_
    have hl : lv_has ls 3 [(2, .int (nI (i + 1))), (1, .int (nI ((10 ^ i) * 10))), (0, .int (nI d))] := lv_sub hl [0, 1, 2] rfl
    have e_4 : nI ((10 ^ i) * 10) = nI (10 ^ (i + 1)) := by rfl
    have hl : lv_has ls 3 [(2, .int (nI (i + 1))), (1, .int (nI (10 ^ (i + 1)))), (0, .int (nI d))] := Eq.subst (motive := fun zz_ => lv_has ls 3 [(2, .int (nI (i + 1))), (1, .int zz_), (0, .int (nI d))]) e_4 hl
    exact ih_1 _ _ _ (by omega) ⟨hP, hD, hS, hl⟩

theorem dX9_four_0 : decode cX9_four 0 = .ok (.iconst 1, 1) := by decide +kernel
theorem dX9_four_1 : decode cX9_four 1 = .ok (.iconst 2, 1) := by decide +kernel
theorem dX9_four_2 : decode cX9_four 2 = .ok (.iload_n 0, 1) := by decide +kernel
theorem dX9_four_3 : decode cX9_four 3 = .ok (.imul, 1) := by decide +kernel
theorem dX9_four_4 : decode cX9_four 4 = .ok (.ishl, 1) := by decide +kernel
theorem dX9_four_5 : decode cX9_four 5 = .ok (.ireturn, 1) := by decide +kernel
theorem zd_X9_four : yX9_four.cls ≠ "java/lang/invoke/MethodHandle" ∧ yX9_four.cls ≠ "java/lang/invoke/VarHandle" ∧ (parseMethodDescriptor yX9_four.desc).map (fun d => d.parameters.length) = some 1 := by decide +kernel
set_option maxHeartbeats 4000000 in
set_option maxRecDepth 100000 in
theorem zc_X9_four (l : Launch) (D : va_G) (cI cZ : ClassId) (d : Nat) (hd : d ≤ 8) : zI l yX9_four cX9_four 1 .int 0 0 D cI cZ [.int (nI d)] [] (fun (r : Int32) (u : Unit) => r = nI (4 ^ d)) (fun (u : Unit) => []) := by
  refine zI_of (by decide) (Nat.le_of_ble_eq_true rfl) ?_
  intro pP eE sS mM aA bB mT cC A ls Z hP hD hS hl
  have hx := Z.1
  have hb := Z.2.1
  have hown := Z.2.2.2.2.2.1
  have hts := Z.2.2.2.2.1
  have Z : zAt pP sS mM aA mT cC D cI cZ A "SurpriseTaxModel" cX9_four 1 (some .int) := Z
  have hl : lv_has ls 1 [(0, .int (nI d))] := hl
  obtain ⟨H, hH⟩ : ∃ H, H = sS.heap := ⟨_, rfl⟩
  have hP : va_P D vwCl [] H := by rw [hH]; exact hP
  have hS : va_S A sS.heap H [] := by rw [hH]; exact hS
  rw [← hH]
  clear hH
  obtain ⟨locs, hlo⟩ : ∃ q : List Loc, q = [] := ⟨_, rfl⟩
  rw [← hlo] at hS ⊢
  clear hlo
  refine lv_iconst (v := nI 1) hx hb dX9_four_0 (by decide) ?_
  refine lv_iconst (v := nI 2) hx hb dX9_four_1 (by decide) ?_
  refine lv_iload_n hx hb dX9_four_2 rfl (lv_at hl 0 rfl) ?_
  refine lv_imul hx hb dX9_four_3 ?_
  refine z_top (y := nI (2 * d)) (z_mul _ _) ?_
  refine lv_ishl hx hb dX9_four_4 ?_
  refine z_top (y := (1 : Int32) <<< ((nI (2 * d)) &&& 31)) rfl ?_
  refine z_top (y := nI (4 ^ d)) (zfour d hd) ?_
  exact z_iret Z () rfl hP hS dX9_four_5

theorem dX9_begin_0 : decode cX9_begin 0 = .ok (.iconst 0, 1) := by decide +kernel
theorem dX9_begin_1 : decode cX9_begin 1 = .ok (.istore_n 1, 1) := by decide +kernel
theorem dX9_begin_2 : decode cX9_begin 2 = .ok (.iload_n 1, 1) := by decide +kernel
theorem dX9_begin_3 : decode cX9_begin 3 = .ok (.bipush 36, 2) := by decide +kernel
theorem dX9_begin_5 : decode cX9_begin 5 = .ok (.if_icmp .ge 21, 3) := by decide +kernel
theorem dX9_begin_8 : decode cX9_begin 8 = .ok (.aload_n 0, 1) := by decide +kernel
theorem dX9_begin_9 : decode cX9_begin 9 = .ok (.getfield 53, 3) := by decide +kernel
theorem dX9_begin_12 : decode cX9_begin 12 = .ok (.iload_n 1, 1) := by decide +kernel
theorem dX9_begin_13 : decode cX9_begin 13 = .ok (.aload_n 0, 1) := by decide +kernel
theorem dX9_begin_14 : decode cX9_begin 14 = .ok (.getfield 34, 3) := by decide +kernel
theorem dX9_begin_17 : decode cX9_begin 17 = .ok (.iload_n 1, 1) := by decide +kernel
theorem dX9_begin_18 : decode cX9_begin 18 = .ok (.iaload, 1) := by decide +kernel
theorem dX9_begin_19 : decode cX9_begin 19 = .ok (.iastore, 1) := by decide +kernel
theorem dX9_begin_20 : decode cX9_begin 20 = .ok (.iinc 1 1, 3) := by decide +kernel
theorem dX9_begin_23 : decode cX9_begin 23 = .ok (.goto (-21), 3) := by decide +kernel
theorem dX9_begin_26 : decode cX9_begin 26 = .ok (.return_, 1) := by decide +kernel
theorem zd_X9_begin : yX9_begin.cls ≠ "java/lang/invoke/MethodHandle" ∧ yX9_begin.cls ≠ "java/lang/invoke/VarHandle" ∧ (parseMethodDescriptor yX9_begin.desc).map (fun d => d.parameters.length) = some 0 := by decide +kernel
set_option maxHeartbeats 4000000 in
set_option maxRecDepth 100000 in
theorem zc_X9_begin (l : Launch) (D : va_G) (cI cZ : ClassId) (M : Nat) (th : Int32) (mtx : Nat) (len : Nat) (pl : Nat) (rt : Int32) (fr : Int32) (pr : Int32) (mod_ : Nat) (n : Nat) (mne : Nat) (mro : Nat) (m : Nat) (rrt : Int32) (rfr : Int32) (rpr : Int32) (mrod : Nat) (rn9 : Nat) (mrne : Nat) (mrro : Nat) (rm9 : Nat) (mrp : Nat) (mpg : Nat) (mbk : Nat) (ac : Nat) (mke : Nat) (mik : Nat) (cr : Nat) (mrw : Nat) (mrd : Nat) (sd : Int64) (mtr : Nat) (mwo : Nat) (mnx : Nat) (jr : Int32) (g : Nat → Int32) (t : Nat → Int32) : zV l yX9_begin cX9_begin 2 0 0 D cI cZ [.ref M] [(M, .inr (9, [.int th, .ref mtx, .int (nI len), .int (nI pl), .int rt, .int fr, .int pr, .ref mod_, .int (nI n), .ref mne, .ref mro, .int (nI m), .int rrt, .int rfr, .int rpr, .ref mrod, .int (nI rn9), .ref mrne, .ref mrro, .int (nI rm9), .ref mrp, .ref mpg, .ref mbk, .int (nI ac), .ref mke, .ref mik, .int (nI cr), .ref mrw, .ref mrd, .long sd, .ref mtr, .ref mwo, .ref mnx, .int jr])), (mpg, .inl (cI, 36, .inl g)), (mtr, .inl (cI, 36, .inl t))] (fun (u : Unit) => True) (fun (u : Unit) => [(M, .inr (9, [.int th, .ref mtx, .int (nI len), .int (nI pl), .int rt, .int fr, .int pr, .ref mod_, .int (nI n), .ref mne, .ref mro, .int (nI m), .int rrt, .int rfr, .int rpr, .ref mrod, .int (nI rn9), .ref mrne, .ref mrro, .int (nI rm9), .ref mrp, .ref mpg, .ref mbk, .int (nI ac), .ref mke, .ref mik, .int (nI cr), .ref mrw, .ref mrd, .long sd, .ref mtr, .ref mwo, .ref mnx, .int jr])), (mpg, .inl (cI, 36, .inl g)), (mtr, .inl (cI, 36, .inl g))]) := by
  refine zV_of (by decide) (Nat.le_of_ble_eq_true rfl) ?_
  intro pP eE sS mM aA bB mT cC A ls Z hP hD hS hl
  have hx := Z.1
  have hb := Z.2.1
  have hown := Z.2.2.2.2.2.1
  have hts := Z.2.2.2.2.1
  have Z : zAt pP sS mM aA mT cC D cI cZ A "SurpriseTaxModel" cX9_begin 2 none := Z
  have hl : lv_has ls 2 [(0, .ref M)] := hl
  obtain ⟨H, hH⟩ : ∃ H, H = sS.heap := ⟨_, rfl⟩
  have hP : va_P D vwCl [(M, .inr (9, [.int th, .ref mtx, .int (nI len), .int (nI pl), .int rt, .int fr, .int pr, .ref mod_, .int (nI n), .ref mne, .ref mro, .int (nI m), .int rrt, .int rfr, .int rpr, .ref mrod, .int (nI rn9), .ref mrne, .ref mrro, .int (nI rm9), .ref mrp, .ref mpg, .ref mbk, .int (nI ac), .ref mke, .ref mik, .int (nI cr), .ref mrw, .ref mrd, .long sd, .ref mtr, .ref mwo, .ref mnx, .int jr])), (mpg, .inl (cI, 36, .inl g)), (mtr, .inl (cI, 36, .inl t))] H := by rw [hH]; exact hP
  have hS : va_S A sS.heap H [] := by rw [hH]; exact hS
  rw [← hH]
  clear hH
  obtain ⟨locs, hlo⟩ : ∃ q : List Loc, q = [] := ⟨_, rfl⟩
  rw [← hlo] at hS ⊢
  clear hlo
  refine lv_iconst (v := nI 0) hx hb dX9_begin_0 (by decide) ?_
  refine lv_istore_n (lv' := [(1, .int (nI 0)), (0, .ref M)]) hx hb dX9_begin_1 rfl hl (by decide) rfl (fun ls hl => ?_)
  have e_2 : t = va_cpy g t 0 0 0 := by first | rw [zcpyT_0] | rfl
  have hP : va_P D vwCl [(M, .inr (9, [.int th, .ref mtx, .int (nI len), .int (nI pl), .int rt, .int fr, .int pr, .ref mod_, .int (nI n), .ref mne, .ref mro, .int (nI m), .int rrt, .int rfr, .int rpr, .ref mrod, .int (nI rn9), .ref mrne, .ref mrro, .int (nI rm9), .ref mrp, .ref mpg, .ref mbk, .int (nI ac), .ref mke, .ref mik, .int (nI cr), .ref mrw, .ref mrd, .long sd, .ref mtr, .ref mwo, .ref mnx, .int jr])), (mpg, .inl (cI, 36, .inl g)), (mtr, .inl (cI, 36, .inl (va_cpy g t 0 0 0)))] H := Eq.subst (motive := fun zz_ => va_P D vwCl [(M, .inr (9, [.int th, .ref mtx, .int (nI len), .int (nI pl), .int rt, .int fr, .int pr, .ref mod_, .int (nI n), .ref mne, .ref mro, .int (nI m), .int rrt, .int rfr, .int rpr, .ref mrod, .int (nI rn9), .ref mrne, .ref mrro, .int (nI rm9), .ref mrp, .ref mpg, .ref mbk, .int (nI ac), .ref mke, .ref mik, .int (nI cr), .ref mrw, .ref mrd, .long sd, .ref mtr, .ref mwo, .ref mnx, .int jr])), (mpg, .inl (cI, 36, .inl g)), (mtr, .inl (cI, 36, .inl zz_))] H) e_2 hP
  have hD : va_D A [(M, .inr (9, [.int th, .ref mtx, .int (nI len), .int (nI pl), .int rt, .int fr, .int pr, .ref mod_, .int (nI n), .ref mne, .ref mro, .int (nI m), .int rrt, .int rfr, .int rpr, .ref mrod, .int (nI rn9), .ref mrne, .ref mrro, .int (nI rm9), .ref mrp, .ref mpg, .ref mbk, .int (nI ac), .ref mke, .ref mik, .int (nI cr), .ref mrw, .ref mrd, .long sd, .ref mtr, .ref mwo, .ref mnx, .int jr])), (mpg, .inl (cI, 36, .inl g)), (mtr, .inl (cI, 36, .inl (va_cpy g t 0 0 0)))] := zD_of hD rfl
  have hl : lv_has ls 2 [(1, .int (nI 0)), (0, .ref M)] := lv_sub hl [0, 1] rfl
  refine z_loop (fun i H locs ls => va_P D vwCl [(M, .inr (9, [.int th, .ref mtx, .int (nI len), .int (nI pl), .int rt, .int fr, .int pr, .ref mod_, .int (nI n), .ref mne, .ref mro, .int (nI m), .int rrt, .int rfr, .int rpr, .ref mrod, .int (nI rn9), .ref mrne, .ref mrro, .int (nI rm9), .ref mrp, .ref mpg, .ref mbk, .int (nI ac), .ref mke, .ref mik, .int (nI cr), .ref mrw, .ref mrd, .long sd, .ref mtr, .ref mwo, .ref mnx, .int jr])), (mpg, .inl (cI, 36, .inl g)), (mtr, .inl (cI, 36, .inl (va_cpy g t 0 0 i)))] H ∧ va_D A [(M, .inr (9, [.int th, .ref mtx, .int (nI len), .int (nI pl), .int rt, .int fr, .int pr, .ref mod_, .int (nI n), .ref mne, .ref mro, .int (nI m), .int rrt, .int rfr, .int rpr, .ref mrod, .int (nI rn9), .ref mrne, .ref mrro, .int (nI rm9), .ref mrp, .ref mpg, .ref mbk, .int (nI ac), .ref mke, .ref mik, .int (nI cr), .ref mrw, .ref mrd, .long sd, .ref mtr, .ref mwo, .ref mnx, .int jr])), (mpg, .inl (cI, 36, .inl g)), (mtr, .inl (cI, 36, .inl (va_cpy g t 0 0 i)))] ∧ va_S A sS.heap H locs ∧ lv_has ls 2 [(1, .int (nI i)), (0, .ref M)]) (36) (lo := 0) (by omega) ⟨hP, hD, hS, hl⟩ (fun i hi_i ih_1 H locs ls hI => ?_)
  obtain ⟨hP, hD, hS, hl⟩ := hI
  have hP : va_P D vwCl [(M, .inr (9, [.int th, .ref mtx, .int (nI len), .int (nI pl), .int rt, .int fr, .int pr, .ref mod_, .int (nI n), .ref mne, .ref mro, .int (nI m), .int rrt, .int rfr, .int rpr, .ref mrod, .int (nI rn9), .ref mrne, .ref mrro, .int (nI rm9), .ref mrp, .ref mpg, .ref mbk, .int (nI ac), .ref mke, .ref mik, .int (nI cr), .ref mrw, .ref mrd, .long sd, .ref mtr, .ref mwo, .ref mnx, .int jr])), (mpg, .inl (cI, 36, .inl g)), (mtr, .inl (cI, 36, .inl (va_cpy g t 0 0 i)))] H := hP
  have hD : va_D A [(M, .inr (9, [.int th, .ref mtx, .int (nI len), .int (nI pl), .int rt, .int fr, .int pr, .ref mod_, .int (nI n), .ref mne, .ref mro, .int (nI m), .int rrt, .int rfr, .int rpr, .ref mrod, .int (nI rn9), .ref mrne, .ref mrro, .int (nI rm9), .ref mrp, .ref mpg, .ref mbk, .int (nI ac), .ref mke, .ref mik, .int (nI cr), .ref mrw, .ref mrd, .long sd, .ref mtr, .ref mwo, .ref mnx, .int jr])), (mpg, .inl (cI, 36, .inl g)), (mtr, .inl (cI, 36, .inl (va_cpy g t 0 0 i)))] := hD
  have hl : lv_has ls 2 [(1, .int (nI i)), (0, .ref M)] := hl
  refine lv_iload_n hx hb dX9_begin_2 rfl (lv_at hl 0 rfl) ?_
  refine lv_bipush (v := nI 36) hx hb dX9_begin_3 (by decide) ?_
  refine lv_icmp_ge (tgt := 26) hx hb dX9_begin_5 (by decide) (fun c_3 => ?_) (fun c_3 => ?_)
  · have c_3 := zle (i := 36) (j := i) (by decide) (by omega) c_3
    have hE_ : 36 = i := by omega
    subst hE_
    have hP : va_P D vwCl [(M, .inr (9, [.int th, .ref mtx, .int (nI len), .int (nI pl), .int rt, .int fr, .int pr, .ref mod_, .int (nI n), .ref mne, .ref mro, .int (nI m), .int rrt, .int rfr, .int rpr, .ref mrod, .int (nI rn9), .ref mrne, .ref mrro, .int (nI rm9), .ref mrp, .ref mpg, .ref mbk, .int (nI ac), .ref mke, .ref mik, .int (nI cr), .ref mrw, .ref mrd, .long sd, .ref mtr, .ref mwo, .ref mnx, .int jr])), (mpg, .inl (cI, 36, .inl g)), (mtr, .inl (cI, 36, .inl g))] H := z_arr (g := g) 2 rfl (by intro j hj; exact zcpy_in hj) hP
    have hD : va_D A [(M, .inr (9, [.int th, .ref mtx, .int (nI len), .int (nI pl), .int rt, .int fr, .int pr, .ref mod_, .int (nI n), .ref mne, .ref mro, .int (nI m), .int rrt, .int rfr, .int rpr, .ref mrod, .int (nI rn9), .ref mrne, .ref mrro, .int (nI rm9), .ref mrp, .ref mpg, .ref mbk, .int (nI ac), .ref mke, .ref mik, .int (nI cr), .ref mrw, .ref mrd, .long sd, .ref mtr, .ref mwo, .ref mnx, .int jr])), (mpg, .inl (cI, 36, .inl g)), (mtr, .inl (cI, 36, .inl g))] := zD_of hD rfl
    exact z_vret Z () trivial hP hS dX9_begin_26
  · have c_3 := znle (i := 36) (j := i) (by decide) (by omega) c_3
    refine lv_aload_n hx hb dX9_begin_8 rfl (lv_at hl 1 rfl) ?_
    refine z_get (ci := 9) (v := .ref mtr) Z zin9 hP 0 rfl rfl 30 (by decide) zm707 rfl rfl dX9_begin_9 ?_
    refine lv_iload_n hx hb dX9_begin_12 rfl (lv_at hl 0 rfl) ?_
    refine lv_aload_n hx hb dX9_begin_13 rfl (lv_at hl 1 rfl) ?_
    refine z_get (ci := 9) (v := .ref mpg) Z zin9 hP 0 rfl rfl 21 (by decide) zm698 rfl rfl dX9_begin_14 ?_
    refine lv_iload_n hx hb dX9_begin_17 rfl (lv_at hl 0 rfl) ?_
    refine z_iald (n := 36) (f := g) (j := i) Z hP 1 rfl (by omega) (by decide) dX9_begin_18 ?_
    refine z_iast (n := 36) (f := va_cpy g t 0 0 i) (j := i) (x := g i) Z hP hD hS 2 rfl (by omega) (by decide) dX9_begin_19 (fun H locs hP hD hS => ?_)
    have hP : va_P D vwCl [(M, .inr (9, [.int th, .ref mtx, .int (nI len), .int (nI pl), .int rt, .int fr, .int pr, .ref mod_, .int (nI n), .ref mne, .ref mro, .int (nI m), .int rrt, .int rfr, .int rpr, .ref mrod, .int (nI rn9), .ref mrne, .ref mrro, .int (nI rm9), .ref mrp, .ref mpg, .ref mbk, .int (nI ac), .ref mke, .ref mik, .int (nI cr), .ref mrw, .ref mrd, .long sd, .ref mtr, .ref mwo, .ref mnx, .int jr])), (mpg, .inl (cI, 36, .inl g)), (mtr, .inl (cI, 36, .inl (upd (va_cpy g t 0 0 i) i (g i))))] H := hP
    have hD : va_D A [(M, .inr (9, [.int th, .ref mtx, .int (nI len), .int (nI pl), .int rt, .int fr, .int pr, .ref mod_, .int (nI n), .ref mne, .ref mro, .int (nI m), .int rrt, .int rfr, .int rpr, .ref mrod, .int (nI rn9), .ref mrne, .ref mrro, .int (nI rm9), .ref mrp, .ref mpg, .ref mbk, .int (nI ac), .ref mke, .ref mik, .int (nI cr), .ref mrw, .ref mrd, .long sd, .ref mtr, .ref mwo, .ref mnx, .int jr])), (mpg, .inl (cI, 36, .inl g)), (mtr, .inl (cI, 36, .inl (upd (va_cpy g t 0 0 i) i (g i))))] := hD
    refine lv_iinc (v := nI (i + 1)) (lv' := [(1, .int (nI (i + 1))), (0, .ref M)]) hx hb dX9_begin_20 hl (k := 0) rfl (z_inc _ 1) (by decide) rfl (fun ls hl => ?_)
    refine lv_goto (tgt := 2) hx hb dX9_begin_23 (by decide) ?_
    have e_4 : upd (va_cpy g t 0 0 i) i (g i) = va_cpy g t 0 0 (i + 1) := by first | exact zcpyT_00 _ _ _ | rfl
    have hP : va_P D vwCl [(M, .inr (9, [.int th, .ref mtx, .int (nI len), .int (nI pl), .int rt, .int fr, .int pr, .ref mod_, .int (nI n), .ref mne, .ref mro, .int (nI m), .int rrt, .int rfr, .int rpr, .ref mrod, .int (nI rn9), .ref mrne, .ref mrro, .int (nI rm9), .ref mrp, .ref mpg, .ref mbk, .int (nI ac), .ref mke, .ref mik, .int (nI cr), .ref mrw, .ref mrd, .long sd, .ref mtr, .ref mwo, .ref mnx, .int jr])), (mpg, .inl (cI, 36, .inl g)), (mtr, .inl (cI, 36, .inl (va_cpy g t 0 0 (i + 1))))] H := Eq.subst (motive := fun zz_ => va_P D vwCl [(M, .inr (9, [.int th, .ref mtx, .int (nI len), .int (nI pl), .int rt, .int fr, .int pr, .ref mod_, .int (nI n), .ref mne, .ref mro, .int (nI m), .int rrt, .int rfr, .int rpr, .ref mrod, .int (nI rn9), .ref mrne, .ref mrro, .int (nI rm9), .ref mrp, .ref mpg, .ref mbk, .int (nI ac), .ref mke, .ref mik, .int (nI cr), .ref mrw, .ref mrd, .long sd, .ref mtr, .ref mwo, .ref mnx, .int jr])), (mpg, .inl (cI, 36, .inl g)), (mtr, .inl (cI, 36, .inl zz_))] H) e_4 hP
    have hD : va_D A [(M, .inr (9, [.int th, .ref mtx, .int (nI len), .int (nI pl), .int rt, .int fr, .int pr, .ref mod_, .int (nI n), .ref mne, .ref mro, .int (nI m), .int rrt, .int rfr, .int rpr, .ref mrod, .int (nI rn9), .ref mrne, .ref mrro, .int (nI rm9), .ref mrp, .ref mpg, .ref mbk, .int (nI ac), .ref mke, .ref mik, .int (nI cr), .ref mrw, .ref mrd, .long sd, .ref mtr, .ref mwo, .ref mnx, .int jr])), (mpg, .inl (cI, 36, .inl g)), (mtr, .inl (cI, 36, .inl (va_cpy g t 0 0 (i + 1))))] := zD_of hD rfl
    have hl : lv_has ls 2 [(1, .int (nI (i + 1))), (0, .ref M)] := lv_sub hl [0, 1] rfl
    exact ih_1 _ _ _ (by omega) ⟨hP, hD, hS, hl⟩

theorem dX9_many_0 : decode cX9_many 0 = .ok (.iconst 0, 1) := by decide +kernel
theorem dX9_many_1 : decode cX9_many 1 = .ok (.istore_n 1, 1) := by decide +kernel
theorem dX9_many_2 : decode cX9_many 2 = .ok (.iconst 0, 1) := by decide +kernel
theorem dX9_many_3 : decode cX9_many 3 = .ok (.istore_n 2, 1) := by decide +kernel
theorem dX9_many_4 : decode cX9_many 4 = .ok (.iload_n 2, 1) := by decide +kernel
theorem dX9_many_5 : decode cX9_many 5 = .ok (.iconst 5, 1) := by decide +kernel
theorem dX9_many_6 : decode cX9_many 6 = .ok (.if_icmp .ge 17, 3) := by decide +kernel
theorem dX9_many_9 : decode cX9_many 9 = .ok (.iload_n 1, 1) := by decide +kernel
theorem dX9_many_10 : decode cX9_many 10 = .ok (.iload_n 0, 1) := by decide +kernel
theorem dX9_many_11 : decode cX9_many 11 = .ok (.iload_n 2, 1) := by decide +kernel
theorem dX9_many_12 : decode cX9_many 12 = .ok (.ishr, 1) := by decide +kernel
theorem dX9_many_13 : decode cX9_many 13 = .ok (.iconst 1, 1) := by decide +kernel
theorem dX9_many_14 : decode cX9_many 14 = .ok (.iand, 1) := by decide +kernel
theorem dX9_many_15 : decode cX9_many 15 = .ok (.iadd, 1) := by decide +kernel
theorem dX9_many_16 : decode cX9_many 16 = .ok (.istore_n 1, 1) := by decide +kernel
theorem dX9_many_17 : decode cX9_many 17 = .ok (.iinc 2 1, 3) := by decide +kernel
theorem dX9_many_20 : decode cX9_many 20 = .ok (.goto (-16), 3) := by decide +kernel
theorem dX9_many_23 : decode cX9_many 23 = .ok (.iload_n 1, 1) := by decide +kernel
theorem dX9_many_24 : decode cX9_many 24 = .ok (.ireturn, 1) := by decide +kernel
theorem zd_X9_many : yX9_many.cls ≠ "java/lang/invoke/MethodHandle" ∧ yX9_many.cls ≠ "java/lang/invoke/VarHandle" ∧ (parseMethodDescriptor yX9_many.desc).map (fun d => d.parameters.length) = some 1 := by decide +kernel
set_option maxHeartbeats 4000000 in
set_option maxRecDepth 100000 in
theorem zc_X9_many (l : Launch) (D : va_G) (cI cZ : ClassId) (x : Int32) : zI l yX9_many cX9_many 3 .int 0 0 D cI cZ [.int x] [] (fun (r : Int32) (u : Unit) => r = zmany x 5) (fun (u : Unit) => []) := by
  refine zI_of (by decide) (Nat.le_of_ble_eq_true rfl) ?_
  intro pP eE sS mM aA bB mT cC A ls Z hP hD hS hl
  have hx := Z.1
  have hb := Z.2.1
  have hown := Z.2.2.2.2.2.1
  have hts := Z.2.2.2.2.1
  have Z : zAt pP sS mM aA mT cC D cI cZ A "SurpriseTaxModel" cX9_many 3 (some .int) := Z
  have hl : lv_has ls 3 [(0, .int x)] := hl
  obtain ⟨H, hH⟩ : ∃ H, H = sS.heap := ⟨_, rfl⟩
  have hP : va_P D vwCl [] H := by rw [hH]; exact hP
  have hS : va_S A sS.heap H [] := by rw [hH]; exact hS
  rw [← hH]
  clear hH
  obtain ⟨locs, hlo⟩ : ∃ q : List Loc, q = [] := ⟨_, rfl⟩
  rw [← hlo] at hS ⊢
  clear hlo
  refine lv_iconst (v := nI 0) hx hb dX9_many_0 (by decide) ?_
  refine lv_istore_n (lv' := [(1, .int (nI 0)), (0, .int x)]) hx hb dX9_many_1 rfl hl (by decide) rfl (fun ls hl => ?_)
  refine lv_iconst (v := nI 0) hx hb dX9_many_2 (by decide) ?_
  refine lv_istore_n (lv' := [(2, .int (nI 0)), (1, .int (nI 0)), (0, .int x)]) hx hb dX9_many_3 rfl hl (by decide) rfl (fun ls hl => ?_)
  have hl : lv_has ls 3 [(2, .int (nI 0)), (1, .int (nI 0)), (0, .int x)] := lv_sub hl [0, 1, 2] rfl
  have e_2 : nI 0 = zmany x 0 := by rfl
  have hl : lv_has ls 3 [(2, .int (nI 0)), (1, .int (zmany x 0)), (0, .int x)] := Eq.subst (motive := fun zz_ => lv_has ls 3 [(2, .int (nI 0)), (1, .int zz_), (0, .int x)]) e_2 hl
  refine z_loop (fun k H locs ls => va_P D vwCl [] H ∧ va_D A [] ∧ va_S A sS.heap H locs ∧ lv_has ls 3 [(2, .int (nI k)), (1, .int (zmany x k)), (0, .int x)]) (5) (lo := 0) (by omega) ⟨hP, hD, hS, hl⟩ (fun k hi_k ih_1 H locs ls hI => ?_)
  obtain ⟨hP, hD, hS, hl⟩ := hI
  have hP : va_P D vwCl [] H := hP
  have hD : va_D A [] := hD
  have hl : lv_has ls 3 [(2, .int (nI k)), (1, .int (zmany x k)), (0, .int x)] := hl
  refine lv_iload_n hx hb dX9_many_4 rfl (lv_at hl 0 rfl) ?_
  refine lv_iconst (v := nI 5) hx hb dX9_many_5 (by decide) ?_
  refine lv_icmp_ge (tgt := 23) hx hb dX9_many_6 (by decide) (fun c_3 => ?_) (fun c_3 => ?_)
  · have c_3 := zle (i := 5) (j := k) (by decide) (by omega) c_3
    have hE_ : 5 = k := by omega
    subst hE_
    refine lv_iload_n hx hb dX9_many_23 rfl (lv_at hl 1 rfl) ?_
    exact z_iret Z () rfl hP hS dX9_many_24
  · have c_3 := znle (i := 5) (j := k) (by decide) (by omega) c_3
    refine lv_iload_n hx hb dX9_many_9 rfl (lv_at hl 1 rfl) ?_
    refine lv_iload_n hx hb dX9_many_10 rfl (lv_at hl 2 rfl) ?_
    refine lv_iload_n hx hb dX9_many_11 rfl (lv_at hl 0 rfl) ?_
    refine lv_ishr hx hb dX9_many_12 ?_
    refine z_top (y := x >>> ((nI k) &&& 31)) rfl ?_
    refine lv_iconst (v := nI 1) hx hb dX9_many_13 (by decide) ?_
    refine lv_iand hx hb dX9_many_14 ?_
    refine z_top (y := (x >>> ((nI k) &&& 31)) &&& 1) rfl ?_
    refine lv_iadd hx hb dX9_many_15 ?_
    refine z_top (y := (zmany x k) + ((x >>> ((nI k) &&& 31)) &&& 1)) rfl ?_
    refine lv_istore_n (lv' := [(1, .int ((zmany x k) + ((x >>> ((nI k) &&& 31)) &&& 1))), (2, .int (nI k)), (0, .int x)]) hx hb dX9_many_16 rfl hl (by decide) rfl (fun ls hl => ?_)
    refine lv_iinc (v := nI (k + 1)) (lv' := [(2, .int (nI (k + 1))), (1, .int ((zmany x k) + ((x >>> ((nI k) &&& 31)) &&& 1))), (0, .int x)]) hx hb dX9_many_17 hl (k := 1) rfl (z_inc _ 1) (by decide) rfl (fun ls hl => ?_)
    refine lv_goto (tgt := 4) hx hb dX9_many_20 (by decide) ?_
    have hl : lv_has ls 3 [(2, .int (nI (k + 1))), (1, .int ((zmany x k) + ((x >>> ((nI k) &&& 31)) &&& 1))), (0, .int x)] := lv_sub hl [0, 1, 2] rfl
    have e_4 : (zmany x k) + ((x >>> ((nI k) &&& 31)) &&& 1) = zmany x (k + 1) := by rfl
    have hl : lv_has ls 3 [(2, .int (nI (k + 1))), (1, .int (zmany x (k + 1))), (0, .int x)] := Eq.subst (motive := fun zz_ => lv_has ls 3 [(2, .int (nI (k + 1))), (1, .int zz_), (0, .int x)]) e_4 hl
    exact ih_1 _ _ _ (by omega) ⟨hP, hD, hS, hl⟩

theorem dX9_apart_0 : decode cX9_apart 0 = .ok (.iload_n 0, 1) := by decide +kernel
theorem dX9_apart_1 : decode cX9_apart 1 = .ok (.iload_n 1, 1) := by decide +kernel
theorem dX9_apart_2 : decode cX9_apart 2 = .ok (.if_icmp .ge 9, 3) := by decide +kernel
theorem dX9_apart_5 : decode cX9_apart 5 = .ok (.iload_n 1, 1) := by decide +kernel
theorem dX9_apart_6 : decode cX9_apart 6 = .ok (.iload_n 0, 1) := by decide +kernel
theorem dX9_apart_7 : decode cX9_apart 7 = .ok (.isub, 1) := by decide +kernel
theorem dX9_apart_8 : decode cX9_apart 8 = .ok (.goto 6, 3) := by decide +kernel
theorem dX9_apart_11 : decode cX9_apart 11 = .ok (.iload_n 0, 1) := by decide +kernel
theorem dX9_apart_12 : decode cX9_apart 12 = .ok (.iload_n 1, 1) := by decide +kernel
theorem dX9_apart_13 : decode cX9_apart 13 = .ok (.isub, 1) := by decide +kernel
theorem dX9_apart_14 : decode cX9_apart 14 = .ok (.ireturn, 1) := by decide +kernel
theorem zd_X9_apart : yX9_apart.cls ≠ "java/lang/invoke/MethodHandle" ∧ yX9_apart.cls ≠ "java/lang/invoke/VarHandle" ∧ (parseMethodDescriptor yX9_apart.desc).map (fun d => d.parameters.length) = some 2 := by decide +kernel
set_option maxHeartbeats 4000000 in
set_option maxRecDepth 100000 in
theorem zc_X9_apart (l : Launch) (D : va_G) (cI cZ : ClassId) (x : Int32) (y : Int32) : zI l yX9_apart cX9_apart 2 .int 0 0 D cI cZ [.int x, .int y] [] (fun (r : Int32) (u : Unit) => r = zapa x y) (fun (u : Unit) => []) := by
  refine zI_of (by decide) (Nat.le_of_ble_eq_true rfl) ?_
  intro pP eE sS mM aA bB mT cC A ls Z hP hD hS hl
  have hx := Z.1
  have hb := Z.2.1
  have hown := Z.2.2.2.2.2.1
  have hts := Z.2.2.2.2.1
  have Z : zAt pP sS mM aA mT cC D cI cZ A "SurpriseTaxModel" cX9_apart 2 (some .int) := Z
  have hl : lv_has ls 2 [(0, .int x), (1, .int y)] := hl
  obtain ⟨H, hH⟩ : ∃ H, H = sS.heap := ⟨_, rfl⟩
  have hP : va_P D vwCl [] H := by rw [hH]; exact hP
  have hS : va_S A sS.heap H [] := by rw [hH]; exact hS
  rw [← hH]
  clear hH
  obtain ⟨locs, hlo⟩ : ∃ q : List Loc, q = [] := ⟨_, rfl⟩
  rw [← hlo] at hS ⊢
  clear hlo
  refine lv_iload_n hx hb dX9_apart_0 rfl (lv_at hl 0 rfl) ?_
  refine lv_iload_n hx hb dX9_apart_1 rfl (lv_at hl 1 rfl) ?_
  refine lv_icmp_ge (tgt := 11) hx hb dX9_apart_2 (by decide) (fun c_1 => ?_) (fun c_1 => ?_)
  · have c_1 : y ≤ x := c_1
    refine lv_iload_n hx hb dX9_apart_11 rfl (lv_at hl 0 rfl) ?_
    refine lv_iload_n hx hb dX9_apart_12 rfl (lv_at hl 1 rfl) ?_
    refine lv_isub hx hb dX9_apart_13 ?_
    refine z_top (y := x - y) rfl ?_
    exact z_iret Z () (by first | (unfold zapa; rw [if_pos (by assumption)]) | (unfold zapa; rw [if_neg (by assumption)])) hP hS dX9_apart_14
  · have c_1 : ¬ (y ≤ x) := c_1
    refine lv_iload_n hx hb dX9_apart_5 rfl (lv_at hl 1 rfl) ?_
    refine lv_iload_n hx hb dX9_apart_6 rfl (lv_at hl 0 rfl) ?_
    refine lv_isub hx hb dX9_apart_7 ?_
    refine z_top (y := y - x) rfl ?_
    refine lv_goto (tgt := 14) hx hb dX9_apart_8 (by decide) ?_
    exact z_iret Z () (by first | (unfold zapa; rw [if_pos (by assumption)]) | (unfold zapa; rw [if_neg (by assumption)])) hP hS dX9_apart_14
