theorem zbi1 {P : Prop} [Decidable P] (h : (if P then (1 : Int32) else 0) = nI 1) : P := by
  by_cases q : P
  · exact q
  · rw [if_neg q] at h; exact absurd h (by decide)
theorem zbi0 {P : Prop} [Decidable P] (h : ¬ (if P then (1 : Int32) else 0) = nI 1) : ¬ P := fun q => h (by rw [if_pos q]; rfl)
theorem zbr_y {rd nv : Nat → Int32} {s : Int32} {i : Nat} (h : zbr rd nv s i = true) (h2 : zbok rd nv s i = true) : zbr rd nv s (i + 1) = true := by
  show (zbr rd nv s i && zbok rd nv s i) = true; rw [h, h2]; rfl
theorem zbr_x {rd nv : Nat → Int32} {s : Int32} {i : Nat} (h2 : zbok rd nv s i = false) : ¬ zbr rd nv s (i + 1) = true := by
  show ¬ (zbr rd nv s i && zbok rd nv s i) = true; rw [h2, Bool.and_false]; exact Bool.false_ne_true
theorem zbr_z {rd nv : Nat → Int32} {s : Int32} {i : Nat} (h : ¬ zbr rd nv s i = true) : ¬ zbr rd nv s (i + 1) = true := by
  show ¬ (zbr rd nv s i && zbok rd nv s i) = true; rw [Bool.eq_false_iff.mpr h]; exact Bool.false_ne_true
theorem zp2b {n : Nat} (h : n ≤ 5) : 2 ^ n ≤ 32 := (Nat.pow_le_pow_right (show 0 < 2 by decide) h : 2 ^ n ≤ 2 ^ 5)
theorem dX9_braced_0 : decode cX9_braced 0 = .ok (.aload_n 0, 1) := by decide +kernel
theorem dX9_braced_1 : decode cX9_braced 1 = .ok (.iconst 0, 1) := by decide +kernel
theorem dX9_braced_2 : decode cX9_braced 2 = .ok (.putfield 62, 3) := by decide +kernel
theorem dX9_braced_5 : decode cX9_braced 5 = .ok (.iload_n 1, 1) := by decide +kernel
theorem dX9_braced_6 : decode cX9_braced 6 = .ok (.i2l, 1) := by decide +kernel
theorem dX9_braced_7 : decode cX9_braced 7 = .ok (.lconst 0, 1) := by decide +kernel
theorem dX9_braced_8 : decode cX9_braced 8 = .ok (.ldc2_w 217, 3) := by decide +kernel
theorem dX9_braced_11 : decode cX9_braced 11 = .ok (.invokestatic 69, 3) := by decide +kernel
theorem dX9_braced_14 : decode cX9_braced 14 = .ok (.ifCond .ne 6, 3) := by decide +kernel
theorem dX9_braced_17 : decode cX9_braced 17 = .ok (.bipush (-2), 2) := by decide +kernel
theorem dX9_braced_19 : decode cX9_braced 19 = .ok (.ireturn, 1) := by decide +kernel
theorem dX9_braced_20 : decode cX9_braced 20 = .ok (.iconst 0, 1) := by decide +kernel
theorem dX9_braced_21 : decode cX9_braced 21 = .ok (.istore_n 2, 1) := by decide +kernel
theorem dX9_braced_22 : decode cX9_braced 22 = .ok (.bipush (-9), 2) := by decide +kernel
theorem dX9_braced_24 : decode cX9_braced 24 = .ok (.istore_n 3, 1) := by decide +kernel
theorem dX9_braced_25 : decode cX9_braced 25 = .ok (.bipush (-9), 2) := by decide +kernel
theorem dX9_braced_27 : decode cX9_braced 27 = .ok (.istore 4, 2) := by decide +kernel
theorem dX9_braced_29 : decode cX9_braced 29 = .ok (.iconst 0, 1) := by decide +kernel
theorem dX9_braced_30 : decode cX9_braced 30 = .ok (.istore 5, 2) := by decide +kernel
theorem dX9_braced_32 : decode cX9_braced 32 = .ok (.iload 5, 2) := by decide +kernel
theorem dX9_braced_34 : decode cX9_braced 34 = .ok (.iconst 1, 1) := by decide +kernel
theorem dX9_braced_35 : decode cX9_braced 35 = .ok (.aload_n 0, 1) := by decide +kernel
theorem dX9_braced_36 : decode cX9_braced 36 = .ok (.getfield 66, 3) := by decide +kernel
theorem dX9_braced_39 : decode cX9_braced 39 = .ok (.ishl, 1) := by decide +kernel
theorem dX9_braced_40 : decode cX9_braced 40 = .ok (.if_icmp .ge 105, 3) := by decide +kernel
theorem dX9_braced_43 : decode cX9_braced 43 = .ok (.iconst 1, 1) := by decide +kernel
theorem dX9_braced_44 : decode cX9_braced 44 = .ok (.istore 6, 2) := by decide +kernel
theorem dX9_braced_46 : decode cX9_braced 46 = .ok (.iconst 0, 1) := by decide +kernel
theorem dX9_braced_47 : decode cX9_braced 47 = .ok (.istore 7, 2) := by decide +kernel
theorem dX9_braced_49 : decode cX9_braced 49 = .ok (.iload 7, 2) := by decide +kernel
theorem dX9_braced_51 : decode cX9_braced 51 = .ok (.aload_n 0, 1) := by decide +kernel
theorem dX9_braced_52 : decode cX9_braced 52 = .ok (.getfield 66, 3) := by decide +kernel
theorem dX9_braced_55 : decode cX9_braced 55 = .ok (.if_icmp .ge 59, 3) := by decide +kernel
theorem dX9_braced_58 : decode cX9_braced 58 = .ok (.iload 6, 2) := by decide +kernel
theorem dX9_braced_60 : decode cX9_braced 60 = .ok (.ifCond .eq 45, 3) := by decide +kernel
theorem dX9_braced_63 : decode cX9_braced 63 = .ok (.iload 5, 2) := by decide +kernel
theorem dX9_braced_65 : decode cX9_braced 65 = .ok (.iload 7, 2) := by decide +kernel
theorem dX9_braced_67 : decode cX9_braced 67 = .ok (.invokestatic 105, 3) := by decide +kernel
theorem dX9_braced_70 : decode cX9_braced 70 = .ok (.aload_n 0, 1) := by decide +kernel
theorem dX9_braced_71 : decode cX9_braced 71 = .ok (.getfield 19, 3) := by decide +kernel
theorem dX9_braced_74 : decode cX9_braced 74 = .ok (.iload 7, 2) := by decide +kernel
theorem dX9_braced_76 : decode cX9_braced 76 = .ok (.iaload, 1) := by decide +kernel
theorem dX9_braced_77 : decode cX9_braced 77 = .ok (.iload 5, 2) := by decide +kernel
theorem dX9_braced_79 : decode cX9_braced 79 = .ok (.iand, 1) := by decide +kernel
theorem dX9_braced_80 : decode cX9_braced 80 = .ok (.invokestatic 221, 3) := by decide +kernel
theorem dX9_braced_83 : decode cX9_braced 83 = .ok (.aload_n 0, 1) := by decide +kernel
theorem dX9_braced_84 : decode cX9_braced 84 = .ok (.getfield 16, 3) := by decide +kernel
theorem dX9_braced_87 : decode cX9_braced 87 = .ok (.iload 7, 2) := by decide +kernel
theorem dX9_braced_89 : decode cX9_braced 89 = .ok (.iaload, 1) := by decide +kernel
theorem dX9_braced_90 : decode cX9_braced 90 = .ok (.if_icmp .lt 7, 3) := by decide +kernel
theorem dX9_braced_93 : decode cX9_braced 93 = .ok (.iconst 1, 1) := by decide +kernel
theorem dX9_braced_94 : decode cX9_braced 94 = .ok (.goto 4, 3) := by decide +kernel
theorem dX9_braced_97 : decode cX9_braced 97 = .ok (.iconst 0, 1) := by decide +kernel
theorem dX9_braced_98 : decode cX9_braced 98 = .ok (.if_icmp .ne 7, 3) := by decide +kernel
theorem dX9_braced_101 : decode cX9_braced 101 = .ok (.iconst 1, 1) := by decide +kernel
theorem dX9_braced_102 : decode cX9_braced 102 = .ok (.goto 4, 3) := by decide +kernel
theorem dX9_braced_105 : decode cX9_braced 105 = .ok (.iconst 0, 1) := by decide +kernel
theorem dX9_braced_106 : decode cX9_braced 106 = .ok (.istore 6, 2) := by decide +kernel
theorem dX9_braced_108 : decode cX9_braced 108 = .ok (.iinc 7 1, 3) := by decide +kernel
theorem dX9_braced_111 : decode cX9_braced 111 = .ok (.goto (-62), 3) := by decide +kernel
theorem dX9_braced_114 : decode cX9_braced 114 = .ok (.iload 6, 2) := by decide +kernel
theorem dX9_braced_116 : decode cX9_braced 116 = .ok (.ifCond .eq 23, 3) := by decide +kernel
theorem dX9_braced_119 : decode cX9_braced 119 = .ok (.iinc 2 1, 3) := by decide +kernel
theorem dX9_braced_122 : decode cX9_braced 122 = .ok (.iload_n 3, 1) := by decide +kernel
theorem dX9_braced_123 : decode cX9_braced 123 = .ok (.bipush (-9), 2) := by decide +kernel
theorem dX9_braced_125 : decode cX9_braced 125 = .ok (.if_icmp .ne 8, 3) := by decide +kernel
theorem dX9_braced_128 : decode cX9_braced 128 = .ok (.iload 5, 2) := by decide +kernel
theorem dX9_braced_130 : decode cX9_braced 130 = .ok (.goto 4, 3) := by decide +kernel
theorem dX9_braced_133 : decode cX9_braced 133 = .ok (.iload_n 3, 1) := by decide +kernel
theorem dX9_braced_134 : decode cX9_braced 134 = .ok (.istore_n 3, 1) := by decide +kernel
theorem dX9_braced_135 : decode cX9_braced 135 = .ok (.iload 5, 2) := by decide +kernel
theorem dX9_braced_137 : decode cX9_braced 137 = .ok (.istore 4, 2) := by decide +kernel
theorem dX9_braced_139 : decode cX9_braced 139 = .ok (.iinc 5 1, 3) := by decide +kernel
theorem dX9_braced_142 : decode cX9_braced 142 = .ok (.goto (-110), 3) := by decide +kernel
theorem dX9_braced_145 : decode cX9_braced 145 = .ok (.iload_n 1, 1) := by decide +kernel
theorem dX9_braced_146 : decode cX9_braced 146 = .ok (.ifCond .ne 7, 3) := by decide +kernel
theorem dX9_braced_149 : decode cX9_braced 149 = .ok (.iload_n 2, 1) := by decide +kernel
theorem dX9_braced_150 : decode cX9_braced 150 = .ok (.goto 14, 3) := by decide +kernel
theorem dX9_braced_153 : decode cX9_braced 153 = .ok (.iload_n 1, 1) := by decide +kernel
theorem dX9_braced_154 : decode cX9_braced 154 = .ok (.iconst 1, 1) := by decide +kernel
theorem dX9_braced_155 : decode cX9_braced 155 = .ok (.if_icmp .ne 7, 3) := by decide +kernel
theorem dX9_braced_158 : decode cX9_braced 158 = .ok (.iload_n 3, 1) := by decide +kernel
theorem dX9_braced_159 : decode cX9_braced 159 = .ok (.goto 5, 3) := by decide +kernel
theorem dX9_braced_162 : decode cX9_braced 162 = .ok (.iload 4, 2) := by decide +kernel
theorem dX9_braced_164 : decode cX9_braced 164 = .ok (.ireturn, 1) := by decide +kernel
theorem zd_X9_braced : yX9_braced.cls ≠ "java/lang/invoke/MethodHandle" ∧ yX9_braced.cls ≠ "java/lang/invoke/VarHandle" ∧ (parseMethodDescriptor yX9_braced.desc).map (fun d => d.parameters.length) = some 1 := by decide +kernel
set_option maxHeartbeats 4000000 in
set_option maxRecDepth 100000 in
theorem zc_X9_braced (l : Launch) (D : va_G) (cI cZ : ClassId) (M : Nat) (th : Int32) (mtx : Nat) (len : Nat) (pl : Nat) (rt : Int32) (fr : Int32) (pr : Int32) (mod_ : Nat) (n : Nat) (mne : Nat) (mro : Nat) (m : Nat) (rrt : Int32) (rfr : Int32) (rpr : Int32) (mrod : Nat) (rn9 : Nat) (mrne : Nat) (mrro : Nat) (rm9 : Nat) (mrp : Nat) (mpg : Nat) (mbk : Nat) (ac : Nat) (mke : Nat) (mik : Nat) (cr : Nat) (mrw : Nat) (mrd : Nat) (sd : Int64) (mtr : Nat) (mwo : Nat) (mnx : Nat) (jr : Int32) (mv : Nat → Int32) (nv : Nat → Int32) (md : Nat → Int32) (rd : Nat → Int32) (x1 : Int32) (hn : n ≤ 5) (hrd : ∀ p, p < n → md p = rd p) (hnv : ∀ p, p < n → mv p = nv p) : zI l yX9_braced cX9_braced 8 .int 1 25 D cI cZ [.ref M, .int x1] [(M, .inr (9, [.int th, .ref mtx, .int (nI len), .int (nI pl), .int rt, .int fr, .int pr, .ref mod_, .int (nI n), .ref mne, .ref mro, .int (nI m), .int rrt, .int rfr, .int rpr, .ref mrod, .int (nI rn9), .ref mrne, .ref mrro, .int (nI rm9), .ref mrp, .ref mpg, .ref mbk, .int (nI ac), .ref mke, .ref mik, .int (nI cr), .ref mrw, .ref mrd, .long sd, .ref mtr, .ref mwo, .ref mnx, .int jr])), (mne, .inl (cI, 5, .inl mv)), (mro, .inl (cI, 5, .inl md))] (fun (r : Int32) (u : Unit) => r = zRa 0 2 x1 (fun w => zb3 (nI w) (zbrn rd nv n (2 ^ n)).1 (zbrn rd nv n (2 ^ n)).2.1 (zbrn rd nv n (2 ^ n)).2.2) (-2)) (fun (u : Unit) => [(M, .inr (9, [.int (nI 0), .ref mtx, .int (nI len), .int (nI pl), .int rt, .int fr, .int pr, .ref mod_, .int (nI n), .ref mne, .ref mro, .int (nI m), .int rrt, .int rfr, .int rpr, .ref mrod, .int (nI rn9), .ref mrne, .ref mrro, .int (nI rm9), .ref mrp, .ref mpg, .ref mbk, .int (nI ac), .ref mke, .ref mik, .int (nI cr), .ref mrw, .ref mrd, .long sd, .ref mtr, .ref mwo, .ref mnx, .int jr])), (mne, .inl (cI, 5, .inl mv)), (mro, .inl (cI, 5, .inl md))]) := by
  refine zI_of (by decide) (Nat.le_of_ble_eq_true rfl) ?_
  intro pP eE sS mM aA bB mT cC A ls Z hP hD hS hl
  have hx := Z.1
  have hb := Z.2.1
  have hown := Z.2.2.2.2.2.1
  have hts := Z.2.2.2.2.1
  have Z : zAt pP sS mM aA mT cC D cI cZ A "SurpriseTaxModel" cX9_braced 8 (some .int) := Z
  have hl : lv_has ls 8 [(0, .ref M), (1, .int x1)] := hl
  obtain ⟨H, hH⟩ : ∃ H, H = sS.heap := ⟨_, rfl⟩
  have hP : va_P D vwCl [(M, .inr (9, [.int th, .ref mtx, .int (nI len), .int (nI pl), .int rt, .int fr, .int pr, .ref mod_, .int (nI n), .ref mne, .ref mro, .int (nI m), .int rrt, .int rfr, .int rpr, .ref mrod, .int (nI rn9), .ref mrne, .ref mrro, .int (nI rm9), .ref mrp, .ref mpg, .ref mbk, .int (nI ac), .ref mke, .ref mik, .int (nI cr), .ref mrw, .ref mrd, .long sd, .ref mtr, .ref mwo, .ref mnx, .int jr])), (mne, .inl (cI, 5, .inl mv)), (mro, .inl (cI, 5, .inl md))] H := by rw [hH]; exact hP
  have hS : va_S A sS.heap H [] := by rw [hH]; exact hS
  rw [← hH]
  clear hH
  obtain ⟨locs, hlo⟩ : ∃ q : List Loc, q = [] := ⟨_, rfl⟩
  rw [← hlo] at hS ⊢
  clear hlo
  refine lv_aload_n hx hb dX9_braced_0 rfl (lv_at hl 0 rfl) ?_
  refine lv_iconst (v := nI 0) hx hb dX9_braced_1 (by decide) ?_
  refine z_put (ci := 9) (v := .int (nI 0)) Z zin9 tyX9 tyX9_ok nmX9 hP hD hS 0 rfl rfl 0 (by decide) zm677 rfl rfl rfl rfl (Nat.le_of_ble_eq_true rfl) dX9_braced_2 (fun H locs hP hD hS => ?_)
  have hP : va_P D vwCl [(M, .inr (9, [.int (nI 0), .ref mtx, .int (nI len), .int (nI pl), .int rt, .int fr, .int pr, .ref mod_, .int (nI n), .ref mne, .ref mro, .int (nI m), .int rrt, .int rfr, .int rpr, .ref mrod, .int (nI rn9), .ref mrne, .ref mrro, .int (nI rm9), .ref mrp, .ref mpg, .ref mbk, .int (nI ac), .ref mke, .ref mik, .int (nI cr), .ref mrw, .ref mrd, .long sd, .ref mtr, .ref mwo, .ref mnx, .int jr])), (mne, .inl (cI, 5, .inl mv)), (mro, .inl (cI, 5, .inl md))] H := hP
  have hD : va_D A [(M, .inr (9, [.int (nI 0), .ref mtx, .int (nI len), .int (nI pl), .int rt, .int fr, .int pr, .ref mod_, .int (nI n), .ref mne, .ref mro, .int (nI m), .int rrt, .int rfr, .int rpr, .ref mrod, .int (nI rn9), .ref mrne, .ref mrro, .int (nI rm9), .ref mrp, .ref mpg, .ref mbk, .int (nI ac), .ref mke, .ref mik, .int (nI cr), .ref mrw, .ref mrd, .long sd, .ref mtr, .ref mwo, .ref mnx, .int jr])), (mne, .inl (cI, 5, .inl mv)), (mro, .inl (cI, 5, .inl md))] := hD
  refine lv_iload_n hx hb dX9_braced_5 rfl (lv_at hl 1 rfl) ?_
  refine lv_i2l (v := x1.toInt64) hx hb dX9_braced_6 rfl ?_
  refine lv_lconst (v := 0) hx hb dX9_braced_7 (by decide) ?_
  refine lv_ldc2 (v := 2) hx hb hown (hts _ zm915) dX9_braced_8 ?_
  refine z_callSi (As := [.long x1.toInt64, .long 0, .long 2]) (rest := []) Z hP hD hS hl.1 (zc_X9_in l D cI cZ x1.toInt64 0 2 ) zm750 zm751 zm39 zm752 zd_X9_in ⟨Nat.le_of_ble_eq_true rfl, Nat.le_of_ble_eq_true rfl⟩ ⟨Nat.zero_le _, Nat.zero_le _⟩ [] rfl (by decide) (fun _ => rfl) rfl (Nat.le_of_ble_eq_true rfl) rfl dX9_braced_11 (fun r_1 u H locs h_2 hP hD hS => ?_)
  have hP : va_P D vwCl [(M, .inr (9, [.int (nI 0), .ref mtx, .int (nI len), .int (nI pl), .int rt, .int fr, .int pr, .ref mod_, .int (nI n), .ref mne, .ref mro, .int (nI m), .int rrt, .int rfr, .int rpr, .ref mrod, .int (nI rn9), .ref mrne, .ref mrro, .int (nI rm9), .ref mrp, .ref mpg, .ref mbk, .int (nI ac), .ref mke, .ref mik, .int (nI cr), .ref mrw, .ref mrd, .long sd, .ref mtr, .ref mwo, .ref mnx, .int jr])), (mne, .inl (cI, 5, .inl mv)), (mro, .inl (cI, 5, .inl md))] H := hP
  have hD : va_D A [(M, .inr (9, [.int (nI 0), .ref mtx, .int (nI len), .int (nI pl), .int rt, .int fr, .int pr, .ref mod_, .int (nI n), .ref mne, .ref mro, .int (nI m), .int rrt, .int rfr, .int rpr, .ref mrod, .int (nI rn9), .ref mrne, .ref mrro, .int (nI rm9), .ref mrp, .ref mpg, .ref mbk, .int (nI ac), .ref mke, .ref mik, .int (nI cr), .ref mrw, .ref mrd, .long sd, .ref mtr, .ref mwo, .ref mnx, .int jr])), (mne, .inl (cI, 5, .inl mv)), (mro, .inl (cI, 5, .inl md))] := hD
  have h_2 : r_1 = if ¬ x1.toInt64 < 0 ∧ ¬ 2 < x1.toInt64 then 1 else 0 := h_2
  subst h_2
  refine lv_if_ne (tgt := 20) hx hb dX9_braced_14 (by decide) (fun c_3 => ?_) (fun c_3 => ?_)
  · have c_3 := zb1 c_3
    have hrg := (zinr (x := x1) 0 2 rfl rfl).mp c_3
    obtain ⟨w, hw0, hw, rfl⟩ := zRa_of (lo := 0) (hi := 2) (by decide) (by decide) hrg.1 hrg.2
    have h2n := zp2b hn
    have h2p : 0 < 2 ^ n := Nat.two_pow_pos n
    refine lv_iconst (v := nI 0) hx hb dX9_braced_20 (by decide) ?_
    refine lv_istore_n (lv' := [(2, .int (nI 0)), (0, .ref M), (1, .int (nI w))]) hx hb dX9_braced_21 rfl hl (by decide) rfl (fun ls hl => ?_)
    refine lv_bipush (v := -9) hx hb dX9_braced_22 (by decide) ?_
    refine lv_istore_n (lv' := [(3, .int (-9)), (2, .int (nI 0)), (0, .ref M), (1, .int (nI w))]) hx hb dX9_braced_24 rfl hl (by decide) rfl (fun ls hl => ?_)
    refine lv_bipush (v := -9) hx hb dX9_braced_25 (by decide) ?_
    refine lv_istore (lv' := [(4, .int (-9)), (3, .int (-9)), (2, .int (nI 0)), (0, .ref M), (1, .int (nI w))]) hx hb dX9_braced_27 hl (by decide) rfl (fun ls hl => ?_)
    refine lv_iconst (v := nI 0) hx hb dX9_braced_29 (by decide) ?_
    refine lv_istore (lv' := [(5, .int (nI 0)), (4, .int (-9)), (3, .int (-9)), (2, .int (nI 0)), (0, .ref M), (1, .int (nI w))]) hx hb dX9_braced_30 hl (by decide) rfl (fun ls hl => ?_)
    have hl : lv_has ls 8 [(5, .int (nI 0)), (4, .int (-9)), (3, .int (-9)), (2, .int (nI 0)), (0, .ref M), (1, .int (nI w))] := lv_sub hl [0, 1, 2, 3, 4, 5] rfl
    have e_5 : -9 = (zbrn rd nv n 0).2.2 := by rfl
    have hl : lv_has ls 8 [(5, .int (nI 0)), (4, .int ((zbrn rd nv n 0).2.2)), (3, .int (-9)), (2, .int (nI 0)), (0, .ref M), (1, .int (nI w))] := Eq.subst (motive := fun zz_ => lv_has ls 8 [(5, .int (nI 0)), (4, .int zz_), (3, .int (-9)), (2, .int (nI 0)), (0, .ref M), (1, .int (nI w))]) e_5 hl
    have e_6 : -9 = (zbrn rd nv n 0).2.1 := by rfl
    have hl : lv_has ls 8 [(5, .int (nI 0)), (4, .int ((zbrn rd nv n 0).2.2)), (3, .int ((zbrn rd nv n 0).2.1)), (2, .int (nI 0)), (0, .ref M), (1, .int (nI w))] := Eq.subst (motive := fun zz_ => lv_has ls 8 [(5, .int (nI 0)), (4, .int ((zbrn rd nv n 0).2.2)), (3, .int zz_), (2, .int (nI 0)), (0, .ref M), (1, .int (nI w))]) e_6 hl
    have e_7 : nI 0 = (zbrn rd nv n 0).1 := by rfl
    have hl : lv_has ls 8 [(5, .int (nI 0)), (4, .int ((zbrn rd nv n 0).2.2)), (3, .int ((zbrn rd nv n 0).2.1)), (2, .int ((zbrn rd nv n 0).1)), (0, .ref M), (1, .int (nI w))] := Eq.subst (motive := fun zz_ => lv_has ls 8 [(5, .int (nI 0)), (4, .int ((zbrn rd nv n 0).2.2)), (3, .int ((zbrn rd nv n 0).2.1)), (2, .int zz_), (0, .ref M), (1, .int (nI w))]) e_7 hl
    refine z_loop (fun s H locs ls => va_P D vwCl [(M, .inr (9, [.int (nI 0), .ref mtx, .int (nI len), .int (nI pl), .int rt, .int fr, .int pr, .ref mod_, .int (nI n), .ref mne, .ref mro, .int (nI m), .int rrt, .int rfr, .int rpr, .ref mrod, .int (nI rn9), .ref mrne, .ref mrro, .int (nI rm9), .ref mrp, .ref mpg, .ref mbk, .int (nI ac), .ref mke, .ref mik, .int (nI cr), .ref mrw, .ref mrd, .long sd, .ref mtr, .ref mwo, .ref mnx, .int jr])), (mne, .inl (cI, 5, .inl mv)), (mro, .inl (cI, 5, .inl md))] H ∧ va_D A [(M, .inr (9, [.int (nI 0), .ref mtx, .int (nI len), .int (nI pl), .int rt, .int fr, .int pr, .ref mod_, .int (nI n), .ref mne, .ref mro, .int (nI m), .int rrt, .int rfr, .int rpr, .ref mrod, .int (nI rn9), .ref mrne, .ref mrro, .int (nI rm9), .ref mrp, .ref mpg, .ref mbk, .int (nI ac), .ref mke, .ref mik, .int (nI cr), .ref mrw, .ref mrd, .long sd, .ref mtr, .ref mwo, .ref mnx, .int jr])), (mne, .inl (cI, 5, .inl mv)), (mro, .inl (cI, 5, .inl md))] ∧ va_S A sS.heap H locs ∧ lv_has ls 8 [(5, .int (nI s)), (4, .int ((zbrn rd nv n s).2.2)), (3, .int ((zbrn rd nv n s).2.1)), (2, .int ((zbrn rd nv n s).1)), (0, .ref M), (1, .int (nI w))]) (2 ^ n) (lo := 0) (by omega) ⟨hP, hD, hS, hl⟩ (fun s hi_s ih_4 H locs ls hI => ?_)
    obtain ⟨hP, hD, hS, hl⟩ := hI
    have hP : va_P D vwCl [(M, .inr (9, [.int (nI 0), .ref mtx, .int (nI len), .int (nI pl), .int rt, .int fr, .int pr, .ref mod_, .int (nI n), .ref mne, .ref mro, .int (nI m), .int rrt, .int rfr, .int rpr, .ref mrod, .int (nI rn9), .ref mrne, .ref mrro, .int (nI rm9), .ref mrp, .ref mpg, .ref mbk, .int (nI ac), .ref mke, .ref mik, .int (nI cr), .ref mrw, .ref mrd, .long sd, .ref mtr, .ref mwo, .ref mnx, .int jr])), (mne, .inl (cI, 5, .inl mv)), (mro, .inl (cI, 5, .inl md))] H := hP
    have hD : va_D A [(M, .inr (9, [.int (nI 0), .ref mtx, .int (nI len), .int (nI pl), .int rt, .int fr, .int pr, .ref mod_, .int (nI n), .ref mne, .ref mro, .int (nI m), .int rrt, .int rfr, .int rpr, .ref mrod, .int (nI rn9), .ref mrne, .ref mrro, .int (nI rm9), .ref mrp, .ref mpg, .ref mbk, .int (nI ac), .ref mke, .ref mik, .int (nI cr), .ref mrw, .ref mrd, .long sd, .ref mtr, .ref mwo, .ref mnx, .int jr])), (mne, .inl (cI, 5, .inl mv)), (mro, .inl (cI, 5, .inl md))] := hD
    have hl : lv_has ls 8 [(5, .int (nI s)), (4, .int ((zbrn rd nv n s).2.2)), (3, .int ((zbrn rd nv n s).2.1)), (2, .int ((zbrn rd nv n s).1)), (0, .ref M), (1, .int (nI w))] := hl
    refine lv_iload hx hb dX9_braced_32 (lv_at hl 0 rfl) ?_
    refine lv_iconst (v := nI 1) hx hb dX9_braced_34 (by decide) ?_
    refine lv_aload_n hx hb dX9_braced_35 rfl (lv_at hl 4 rfl) ?_
    refine z_get (ci := 9) (v := .int (nI n)) Z zin9 hP 0 rfl rfl 8 (by decide) zm685 rfl rfl dX9_braced_36 ?_
    refine lv_ishl hx hb dX9_braced_39 ?_
    refine z_top (y := (1 : Int32) <<< ((nI n) &&& 31)) rfl ?_
    refine z_top (y := nI (2 ^ n)) (zpow2 n hn) ?_
    refine lv_icmp_ge (tgt := 145) hx hb dX9_braced_40 (by decide) (fun c_8 => ?_) (fun c_8 => ?_)
    · have c_8 := zle (i := 2 ^ n) (j := s) (by omega) (by omega) c_8
      have hs2 : s = 2 ^ n := by omega
      have hE : ((zbrn rd nv n s).1 : Int32) = ((zbrn rd nv n (2 ^ n)).1) := by rw [hs2]
      have hl : lv_has ls 8 [(5, .int (nI s)), (4, .int ((zbrn rd nv n s).2.2)), (3, .int ((zbrn rd nv n s).2.1)), (2, .int ((zbrn rd nv n (2 ^ n)).1)), (0, .ref M), (1, .int (nI w))] := Eq.subst (motive := fun zz_ => lv_has ls 8 [(5, .int (nI s)), (4, .int ((zbrn rd nv n s).2.2)), (3, .int ((zbrn rd nv n s).2.1)), (2, .int zz_), (0, .ref M), (1, .int (nI w))]) hE hl
      have hE : ((zbrn rd nv n s).2.1 : Int32) = ((zbrn rd nv n (2 ^ n)).2.1) := by rw [hs2]
      have hl : lv_has ls 8 [(5, .int (nI s)), (4, .int ((zbrn rd nv n s).2.2)), (3, .int ((zbrn rd nv n (2 ^ n)).2.1)), (2, .int ((zbrn rd nv n (2 ^ n)).1)), (0, .ref M), (1, .int (nI w))] := Eq.subst (motive := fun zz_ => lv_has ls 8 [(5, .int (nI s)), (4, .int ((zbrn rd nv n s).2.2)), (3, .int zz_), (2, .int ((zbrn rd nv n (2 ^ n)).1)), (0, .ref M), (1, .int (nI w))]) hE hl
      have hE : ((zbrn rd nv n s).2.2 : Int32) = ((zbrn rd nv n (2 ^ n)).2.2) := by rw [hs2]
      have hl : lv_has ls 8 [(5, .int (nI s)), (4, .int ((zbrn rd nv n (2 ^ n)).2.2)), (3, .int ((zbrn rd nv n (2 ^ n)).2.1)), (2, .int ((zbrn rd nv n (2 ^ n)).1)), (0, .ref M), (1, .int (nI w))] := Eq.subst (motive := fun zz_ => lv_has ls 8 [(5, .int (nI s)), (4, .int zz_), (3, .int ((zbrn rd nv n (2 ^ n)).2.1)), (2, .int ((zbrn rd nv n (2 ^ n)).1)), (0, .ref M), (1, .int (nI w))]) hE hl
      refine lv_iload_n hx hb dX9_braced_145 rfl (lv_at hl 5 rfl) ?_
      refine lv_if_ne (tgt := 153) hx hb dX9_braced_146 (by decide) (fun c_9 => ?_) (fun c_9 => ?_)
      · have c_9 := zne (i := w) (j := 0) c_9
        refine lv_iload_n hx hb dX9_braced_153 rfl (lv_at hl 5 rfl) ?_
        refine lv_iconst (v := nI 1) hx hb dX9_braced_154 (by decide) ?_
        refine lv_icmp_ne (tgt := 162) hx hb dX9_braced_155 (by decide) (fun c_10 => ?_) (fun c_10 => ?_)
        · have c_10 := zne (i := w) (j := 1) c_10
          refine lv_iload hx hb dX9_braced_162 (lv_at hl 1 rfl) ?_
          exact z_iret Z () (by first | rw [zRa_n hrgn] | (rw [zRa_y hw0 hw (by decide)]; first | (rw [zb3_0 (by assumption)]; done) | (rw [zb3_1 (by assumption)]; done) | (rw [zb3_2 (by assumption) (by assumption) hw]; done)) | rfl) hP hS dX9_braced_164
        · have c_10 := zeq (i := w) (j := 1) (by omega) (by decide) c_10
          refine lv_iload_n hx hb dX9_braced_158 rfl (lv_at hl 2 rfl) ?_
          refine lv_goto (tgt := 164) hx hb dX9_braced_159 (by decide) ?_
          exact z_iret Z () (by first | rw [zRa_n hrgn] | (rw [zRa_y hw0 hw (by decide)]; first | (rw [zb3_0 (by assumption)]; done) | (rw [zb3_1 (by assumption)]; done) | (rw [zb3_2 (by assumption) (by assumption) hw]; done)) | rfl) hP hS dX9_braced_164
      · have c_9 := zeq (i := w) (j := 0) (by omega) (by decide) c_9
        refine lv_iload_n hx hb dX9_braced_149 rfl (lv_at hl 3 rfl) ?_
        refine lv_goto (tgt := 164) hx hb dX9_braced_150 (by decide) ?_
        exact z_iret Z () (by first | rw [zRa_n hrgn] | (rw [zRa_y hw0 hw (by decide)]; first | (rw [zb3_0 (by assumption)]; done) | (rw [zb3_1 (by assumption)]; done) | (rw [zb3_2 (by assumption) (by assumption) hw]; done)) | rfl) hP hS dX9_braced_164
    · have c_8 := znle (i := 2 ^ n) (j := s) (by omega) (by omega) c_8
      refine lv_iconst (v := nI 1) hx hb dX9_braced_43 (by decide) ?_
      refine lv_istore (lv' := [(6, .int (nI 1)), (5, .int (nI s)), (4, .int ((zbrn rd nv n s).2.2)), (3, .int ((zbrn rd nv n s).2.1)), (2, .int ((zbrn rd nv n s).1)), (0, .ref M), (1, .int (nI w))]) hx hb dX9_braced_44 hl (by decide) rfl (fun ls hl => ?_)
      refine lv_iconst (v := nI 0) hx hb dX9_braced_46 (by decide) ?_
      refine lv_istore (lv' := [(7, .int (nI 0)), (6, .int (nI 1)), (5, .int (nI s)), (4, .int ((zbrn rd nv n s).2.2)), (3, .int ((zbrn rd nv n s).2.1)), (2, .int ((zbrn rd nv n s).1)), (0, .ref M), (1, .int (nI w))]) hx hb dX9_braced_47 hl (by decide) rfl (fun ls hl => ?_)
      have hl : lv_has ls 8 [(7, .int (nI 0)), (6, .int (nI 1)), (5, .int (nI s)), (4, .int ((zbrn rd nv n s).2.2)), (3, .int ((zbrn rd nv n s).2.1)), (2, .int ((zbrn rd nv n s).1)), (0, .ref M), (1, .int (nI w))] := lv_sub hl [0, 1, 2, 3, 4, 5, 6, 7] rfl
      have e_12 : nI 1 = (if zbr rd nv (nI s) 0 = true then 1 else 0) := by rfl
      have hl : lv_has ls 8 [(7, .int (nI 0)), (6, .int (if zbr rd nv (nI s) 0 = true then 1 else 0)), (5, .int (nI s)), (4, .int ((zbrn rd nv n s).2.2)), (3, .int ((zbrn rd nv n s).2.1)), (2, .int ((zbrn rd nv n s).1)), (0, .ref M), (1, .int (nI w))] := Eq.subst (motive := fun zz_ => lv_has ls 8 [(7, .int (nI 0)), (6, .int zz_), (5, .int (nI s)), (4, .int ((zbrn rd nv n s).2.2)), (3, .int ((zbrn rd nv n s).2.1)), (2, .int ((zbrn rd nv n s).1)), (0, .ref M), (1, .int (nI w))]) e_12 hl
      refine z_loop (fun i H locs ls => va_P D vwCl [(M, .inr (9, [.int (nI 0), .ref mtx, .int (nI len), .int (nI pl), .int rt, .int fr, .int pr, .ref mod_, .int (nI n), .ref mne, .ref mro, .int (nI m), .int rrt, .int rfr, .int rpr, .ref mrod, .int (nI rn9), .ref mrne, .ref mrro, .int (nI rm9), .ref mrp, .ref mpg, .ref mbk, .int (nI ac), .ref mke, .ref mik, .int (nI cr), .ref mrw, .ref mrd, .long sd, .ref mtr, .ref mwo, .ref mnx, .int jr])), (mne, .inl (cI, 5, .inl mv)), (mro, .inl (cI, 5, .inl md))] H ∧ va_D A [(M, .inr (9, [.int (nI 0), .ref mtx, .int (nI len), .int (nI pl), .int rt, .int fr, .int pr, .ref mod_, .int (nI n), .ref mne, .ref mro, .int (nI m), .int rrt, .int rfr, .int rpr, .ref mrod, .int (nI rn9), .ref mrne, .ref mrro, .int (nI rm9), .ref mrp, .ref mpg, .ref mbk, .int (nI ac), .ref mke, .ref mik, .int (nI cr), .ref mrw, .ref mrd, .long sd, .ref mtr, .ref mwo, .ref mnx, .int jr])), (mne, .inl (cI, 5, .inl mv)), (mro, .inl (cI, 5, .inl md))] ∧ va_S A sS.heap H locs ∧ lv_has ls 8 [(7, .int (nI i)), (6, .int (if zbr rd nv (nI s) i = true then 1 else 0)), (5, .int (nI s)), (4, .int ((zbrn rd nv n s).2.2)), (3, .int ((zbrn rd nv n s).2.1)), (2, .int ((zbrn rd nv n s).1)), (0, .ref M), (1, .int (nI w))]) (n) (lo := 0) (by omega) ⟨hP, hD, hS, hl⟩ (fun i hi_i ih_11 H locs ls hI => ?_)
      obtain ⟨hP, hD, hS, hl⟩ := hI
      have hP : va_P D vwCl [(M, .inr (9, [.int (nI 0), .ref mtx, .int (nI len), .int (nI pl), .int rt, .int fr, .int pr, .ref mod_, .int (nI n), .ref mne, .ref mro, .int (nI m), .int rrt, .int rfr, .int rpr, .ref mrod, .int (nI rn9), .ref mrne, .ref mrro, .int (nI rm9), .ref mrp, .ref mpg, .ref mbk, .int (nI ac), .ref mke, .ref mik, .int (nI cr), .ref mrw, .ref mrd, .long sd, .ref mtr, .ref mwo, .ref mnx, .int jr])), (mne, .inl (cI, 5, .inl mv)), (mro, .inl (cI, 5, .inl md))] H := hP
      have hD : va_D A [(M, .inr (9, [.int (nI 0), .ref mtx, .int (nI len), .int (nI pl), .int rt, .int fr, .int pr, .ref mod_, .int (nI n), .ref mne, .ref mro, .int (nI m), .int rrt, .int rfr, .int rpr, .ref mrod, .int (nI rn9), .ref mrne, .ref mrro, .int (nI rm9), .ref mrp, .ref mpg, .ref mbk, .int (nI ac), .ref mke, .ref mik, .int (nI cr), .ref mrw, .ref mrd, .long sd, .ref mtr, .ref mwo, .ref mnx, .int jr])), (mne, .inl (cI, 5, .inl mv)), (mro, .inl (cI, 5, .inl md))] := hD
      have hl : lv_has ls 8 [(7, .int (nI i)), (6, .int (if zbr rd nv (nI s) i = true then 1 else 0)), (5, .int (nI s)), (4, .int ((zbrn rd nv n s).2.2)), (3, .int ((zbrn rd nv n s).2.1)), (2, .int ((zbrn rd nv n s).1)), (0, .ref M), (1, .int (nI w))] := hl
      refine lv_iload hx hb dX9_braced_49 (lv_at hl 0 rfl) ?_
      refine lv_aload_n hx hb dX9_braced_51 rfl (lv_at hl 6 rfl) ?_
      refine z_get (ci := 9) (v := .int (nI n)) Z zin9 hP 0 rfl rfl 8 (by decide) zm685 rfl rfl dX9_braced_52 ?_
      refine lv_icmp_ge (tgt := 114) hx hb dX9_braced_55 (by decide) (fun c_13 => ?_) (fun c_13 => ?_)
      · have c_13 := zle (i := n) (j := i) (by omega) (by omega) c_13
        have hE_ : n = i := by omega
        subst hE_
        refine lv_iload hx hb dX9_braced_114 (lv_at hl 1 rfl) ?_
        refine lv_if_eq (tgt := 139) hx hb dX9_braced_116 (by decide) (fun c_14 => ?_) (fun c_14 => ?_)
        · have c_14 := zb0 c_14
          have hzy := c_14
          refine lv_iinc (v := nI (s + 1)) (lv' := [(5, .int (nI (s + 1))), (7, .int (nI n)), (6, .int (if zbr rd nv (nI s) n = true then 1 else 0)), (4, .int ((zbrn rd nv n s).2.2)), (3, .int ((zbrn rd nv n s).2.1)), (2, .int ((zbrn rd nv n s).1)), (0, .ref M), (1, .int (nI w))]) hx hb dX9_braced_139 hl (k := 2) rfl (z_inc _ 1) (by decide) rfl (fun ls hl => ?_)
          refine lv_goto (tgt := 32) hx hb dX9_braced_142 (by decide) ?_
          have hl : lv_has ls 8 [(5, .int (nI (s + 1))), (4, .int ((zbrn rd nv n s).2.2)), (3, .int ((zbrn rd nv n s).2.1)), (2, .int ((zbrn rd nv n s).1)), (0, .ref M), (1, .int (nI w))] := lv_sub hl [0, 3, 4, 5, 6, 7] rfl
          have e_15 : (zbrn rd nv n s).2.2 = (zbrn rd nv n (s + 1)).2.2 := by first | (rw [zbrn_y hzy]; done) | (rw [zbrn_y hzy]; exact (if_pos (by assumption)).symm) | (rw [zbrn_y hzy]; exact (if_neg (by assumption)).symm) | (rw [zbrn_n hzy]; done)
          have hl : lv_has ls 8 [(5, .int (nI (s + 1))), (4, .int ((zbrn rd nv n (s + 1)).2.2)), (3, .int ((zbrn rd nv n s).2.1)), (2, .int ((zbrn rd nv n s).1)), (0, .ref M), (1, .int (nI w))] := Eq.subst (motive := fun zz_ => lv_has ls 8 [(5, .int (nI (s + 1))), (4, .int zz_), (3, .int ((zbrn rd nv n s).2.1)), (2, .int ((zbrn rd nv n s).1)), (0, .ref M), (1, .int (nI w))]) e_15 hl
          have e_16 : (zbrn rd nv n s).2.1 = (zbrn rd nv n (s + 1)).2.1 := by first | (rw [zbrn_y hzy]; done) | (rw [zbrn_y hzy]; exact (if_pos (by assumption)).symm) | (rw [zbrn_y hzy]; exact (if_neg (by assumption)).symm) | (rw [zbrn_n hzy]; done)
          have hl : lv_has ls 8 [(5, .int (nI (s + 1))), (4, .int ((zbrn rd nv n (s + 1)).2.2)), (3, .int ((zbrn rd nv n (s + 1)).2.1)), (2, .int ((zbrn rd nv n s).1)), (0, .ref M), (1, .int (nI w))] := Eq.subst (motive := fun zz_ => lv_has ls 8 [(5, .int (nI (s + 1))), (4, .int ((zbrn rd nv n (s + 1)).2.2)), (3, .int zz_), (2, .int ((zbrn rd nv n s).1)), (0, .ref M), (1, .int (nI w))]) e_16 hl
          have e_17 : (zbrn rd nv n s).1 = (zbrn rd nv n (s + 1)).1 := by first | (rw [zbrn_y hzy]; done) | (rw [zbrn_y hzy]; exact (if_pos (by assumption)).symm) | (rw [zbrn_y hzy]; exact (if_neg (by assumption)).symm) | (rw [zbrn_n hzy]; done)
          have hl : lv_has ls 8 [(5, .int (nI (s + 1))), (4, .int ((zbrn rd nv n (s + 1)).2.2)), (3, .int ((zbrn rd nv n (s + 1)).2.1)), (2, .int ((zbrn rd nv n (s + 1)).1)), (0, .ref M), (1, .int (nI w))] := Eq.subst (motive := fun zz_ => lv_has ls 8 [(5, .int (nI (s + 1))), (4, .int ((zbrn rd nv n (s + 1)).2.2)), (3, .int ((zbrn rd nv n (s + 1)).2.1)), (2, .int zz_), (0, .ref M), (1, .int (nI w))]) e_17 hl
          exact ih_4 _ _ _ (by omega) ⟨hP, hD, hS, hl⟩
        · have c_14 := zb1 c_14
          have hzy := c_14
          refine lv_iinc (v := ((zbrn rd nv n s).1) + 1) (lv' := [(2, .int (((zbrn rd nv n s).1) + 1)), (7, .int (nI n)), (6, .int (if zbr rd nv (nI s) n = true then 1 else 0)), (5, .int (nI s)), (4, .int ((zbrn rd nv n s).2.2)), (3, .int ((zbrn rd nv n s).2.1)), (0, .ref M), (1, .int (nI w))]) hx hb dX9_braced_119 hl (k := 5) rfl rfl (by decide) rfl (fun ls hl => ?_)
          refine lv_iload_n hx hb dX9_braced_122 rfl (lv_at hl 5 rfl) ?_
          refine lv_bipush (v := -9) hx hb dX9_braced_123 (by decide) ?_
          refine lv_icmp_ne (tgt := 133) hx hb dX9_braced_125 (by decide) (fun c_18 => ?_) (fun c_18 => ?_)
          · have c_18 : ¬ (((zbrn rd nv n s).2.1) = (-9)) := c_18
            refine lv_iload_n hx hb dX9_braced_133 rfl (lv_at hl 5 rfl) ?_
            refine lv_istore_n (lv' := [(3, .int ((zbrn rd nv n s).2.1)), (2, .int (((zbrn rd nv n s).1) + 1)), (7, .int (nI n)), (6, .int (if zbr rd nv (nI s) n = true then 1 else 0)), (5, .int (nI s)), (4, .int ((zbrn rd nv n s).2.2)), (0, .ref M), (1, .int (nI w))]) hx hb dX9_braced_134 rfl hl (by decide) rfl (fun ls hl => ?_)
            refine lv_iload hx hb dX9_braced_135 (lv_at hl 4 rfl) ?_
            refine lv_istore (lv' := [(4, .int (nI s)), (3, .int ((zbrn rd nv n s).2.1)), (2, .int (((zbrn rd nv n s).1) + 1)), (7, .int (nI n)), (6, .int (if zbr rd nv (nI s) n = true then 1 else 0)), (5, .int (nI s)), (0, .ref M), (1, .int (nI w))]) hx hb dX9_braced_137 hl (by decide) rfl (fun ls hl => ?_)
            refine lv_iinc (v := nI (s + 1)) (lv' := [(5, .int (nI (s + 1))), (4, .int (nI s)), (3, .int ((zbrn rd nv n s).2.1)), (2, .int (((zbrn rd nv n s).1) + 1)), (7, .int (nI n)), (6, .int (if zbr rd nv (nI s) n = true then 1 else 0)), (0, .ref M), (1, .int (nI w))]) hx hb dX9_braced_139 hl (k := 5) rfl (z_inc _ 1) (by decide) rfl (fun ls hl => ?_)
            refine lv_goto (tgt := 32) hx hb dX9_braced_142 (by decide) ?_
            have hl : lv_has ls 8 [(5, .int (nI (s + 1))), (4, .int (nI s)), (3, .int ((zbrn rd nv n s).2.1)), (2, .int (((zbrn rd nv n s).1) + 1)), (0, .ref M), (1, .int (nI w))] := lv_sub hl [0, 1, 2, 3, 6, 7] rfl
            have e_19 : nI s = (zbrn rd nv n (s + 1)).2.2 := by first | (rw [zbrn_y hzy]; done) | (rw [zbrn_y hzy]; exact (if_pos (by assumption)).symm) | (rw [zbrn_y hzy]; exact (if_neg (by assumption)).symm) | (rw [zbrn_n hzy]; done)
            have hl : lv_has ls 8 [(5, .int (nI (s + 1))), (4, .int ((zbrn rd nv n (s + 1)).2.2)), (3, .int ((zbrn rd nv n s).2.1)), (2, .int (((zbrn rd nv n s).1) + 1)), (0, .ref M), (1, .int (nI w))] := Eq.subst (motive := fun zz_ => lv_has ls 8 [(5, .int (nI (s + 1))), (4, .int zz_), (3, .int ((zbrn rd nv n s).2.1)), (2, .int (((zbrn rd nv n s).1) + 1)), (0, .ref M), (1, .int (nI w))]) e_19 hl
            have e_20 : (zbrn rd nv n s).2.1 = (zbrn rd nv n (s + 1)).2.1 := by first | (rw [zbrn_y hzy]; done) | (rw [zbrn_y hzy]; exact (if_pos (by assumption)).symm) | (rw [zbrn_y hzy]; exact (if_neg (by assumption)).symm) | (rw [zbrn_n hzy]; done)
            have hl : lv_has ls 8 [(5, .int (nI (s + 1))), (4, .int ((zbrn rd nv n (s + 1)).2.2)), (3, .int ((zbrn rd nv n (s + 1)).2.1)), (2, .int (((zbrn rd nv n s).1) + 1)), (0, .ref M), (1, .int (nI w))] := Eq.subst (motive := fun zz_ => lv_has ls 8 [(5, .int (nI (s + 1))), (4, .int ((zbrn rd nv n (s + 1)).2.2)), (3, .int zz_), (2, .int (((zbrn rd nv n s).1) + 1)), (0, .ref M), (1, .int (nI w))]) e_20 hl
            have e_21 : ((zbrn rd nv n s).1) + 1 = (zbrn rd nv n (s + 1)).1 := by first | (rw [zbrn_y hzy]; done) | (rw [zbrn_y hzy]; exact (if_pos (by assumption)).symm) | (rw [zbrn_y hzy]; exact (if_neg (by assumption)).symm) | (rw [zbrn_n hzy]; done)
            have hl : lv_has ls 8 [(5, .int (nI (s + 1))), (4, .int ((zbrn rd nv n (s + 1)).2.2)), (3, .int ((zbrn rd nv n (s + 1)).2.1)), (2, .int ((zbrn rd nv n (s + 1)).1)), (0, .ref M), (1, .int (nI w))] := Eq.subst (motive := fun zz_ => lv_has ls 8 [(5, .int (nI (s + 1))), (4, .int ((zbrn rd nv n (s + 1)).2.2)), (3, .int ((zbrn rd nv n (s + 1)).2.1)), (2, .int zz_), (0, .ref M), (1, .int (nI w))]) e_21 hl
            exact ih_4 _ _ _ (by omega) ⟨hP, hD, hS, hl⟩
          · have c_18 : ((zbrn rd nv n s).2.1) = (-9) := c_18
            refine lv_iload hx hb dX9_braced_128 (lv_at hl 3 rfl) ?_
            refine lv_goto (tgt := 134) hx hb dX9_braced_130 (by decide) ?_
            refine lv_istore_n (lv' := [(3, .int (nI s)), (2, .int (((zbrn rd nv n s).1) + 1)), (7, .int (nI n)), (6, .int (if zbr rd nv (nI s) n = true then 1 else 0)), (5, .int (nI s)), (4, .int ((zbrn rd nv n s).2.2)), (0, .ref M), (1, .int (nI w))]) hx hb dX9_braced_134 rfl hl (by decide) rfl (fun ls hl => ?_)
            refine lv_iload hx hb dX9_braced_135 (lv_at hl 4 rfl) ?_
            refine lv_istore (lv' := [(4, .int (nI s)), (3, .int (nI s)), (2, .int (((zbrn rd nv n s).1) + 1)), (7, .int (nI n)), (6, .int (if zbr rd nv (nI s) n = true then 1 else 0)), (5, .int (nI s)), (0, .ref M), (1, .int (nI w))]) hx hb dX9_braced_137 hl (by decide) rfl (fun ls hl => ?_)
            refine lv_iinc (v := nI (s + 1)) (lv' := [(5, .int (nI (s + 1))), (4, .int (nI s)), (3, .int (nI s)), (2, .int (((zbrn rd nv n s).1) + 1)), (7, .int (nI n)), (6, .int (if zbr rd nv (nI s) n = true then 1 else 0)), (0, .ref M), (1, .int (nI w))]) hx hb dX9_braced_139 hl (k := 5) rfl (z_inc _ 1) (by decide) rfl (fun ls hl => ?_)
            refine lv_goto (tgt := 32) hx hb dX9_braced_142 (by decide) ?_
            have hl : lv_has ls 8 [(5, .int (nI (s + 1))), (4, .int (nI s)), (3, .int (nI s)), (2, .int (((zbrn rd nv n s).1) + 1)), (0, .ref M), (1, .int (nI w))] := lv_sub hl [0, 1, 2, 3, 6, 7] rfl
            have e_22 : nI s = (zbrn rd nv n (s + 1)).2.2 := by first | (rw [zbrn_y hzy]; done) | (rw [zbrn_y hzy]; exact (if_pos (by assumption)).symm) | (rw [zbrn_y hzy]; exact (if_neg (by assumption)).symm) | (rw [zbrn_n hzy]; done)
            have hl : lv_has ls 8 [(5, .int (nI (s + 1))), (4, .int ((zbrn rd nv n (s + 1)).2.2)), (3, .int (nI s)), (2, .int (((zbrn rd nv n s).1) + 1)), (0, .ref M), (1, .int (nI w))] := Eq.subst (motive := fun zz_ => lv_has ls 8 [(5, .int (nI (s + 1))), (4, .int zz_), (3, .int (nI s)), (2, .int (((zbrn rd nv n s).1) + 1)), (0, .ref M), (1, .int (nI w))]) e_22 hl
            have e_23 : nI s = (zbrn rd nv n (s + 1)).2.1 := by first | (rw [zbrn_y hzy]; done) | (rw [zbrn_y hzy]; exact (if_pos (by assumption)).symm) | (rw [zbrn_y hzy]; exact (if_neg (by assumption)).symm) | (rw [zbrn_n hzy]; done)
            have hl : lv_has ls 8 [(5, .int (nI (s + 1))), (4, .int ((zbrn rd nv n (s + 1)).2.2)), (3, .int ((zbrn rd nv n (s + 1)).2.1)), (2, .int (((zbrn rd nv n s).1) + 1)), (0, .ref M), (1, .int (nI w))] := Eq.subst (motive := fun zz_ => lv_has ls 8 [(5, .int (nI (s + 1))), (4, .int ((zbrn rd nv n (s + 1)).2.2)), (3, .int zz_), (2, .int (((zbrn rd nv n s).1) + 1)), (0, .ref M), (1, .int (nI w))]) e_23 hl
            have e_24 : ((zbrn rd nv n s).1) + 1 = (zbrn rd nv n (s + 1)).1 := by first | (rw [zbrn_y hzy]; done) | (rw [zbrn_y hzy]; exact (if_pos (by assumption)).symm) | (rw [zbrn_y hzy]; exact (if_neg (by assumption)).symm) | (rw [zbrn_n hzy]; done)
            have hl : lv_has ls 8 [(5, .int (nI (s + 1))), (4, .int ((zbrn rd nv n (s + 1)).2.2)), (3, .int ((zbrn rd nv n (s + 1)).2.1)), (2, .int ((zbrn rd nv n (s + 1)).1)), (0, .ref M), (1, .int (nI w))] := Eq.subst (motive := fun zz_ => lv_has ls 8 [(5, .int (nI (s + 1))), (4, .int ((zbrn rd nv n (s + 1)).2.2)), (3, .int ((zbrn rd nv n (s + 1)).2.1)), (2, .int zz_), (0, .ref M), (1, .int (nI w))]) e_24 hl
            exact ih_4 _ _ _ (by omega) ⟨hP, hD, hS, hl⟩
      · have c_13 := znle (i := n) (j := i) (by omega) (by omega) c_13
        refine lv_iload hx hb dX9_braced_58 (lv_at hl 1 rfl) ?_
        refine lv_if_eq (tgt := 105) hx hb dX9_braced_60 (by decide) (fun c_25 => ?_) (fun c_25 => ?_)
        · have c_25 := zb0 c_25
          have hzn := c_25
          refine lv_iconst (v := nI 0) hx hb dX9_braced_105 (by decide) ?_
          refine lv_istore (lv' := [(6, .int (nI 0)), (7, .int (nI i)), (5, .int (nI s)), (4, .int ((zbrn rd nv n s).2.2)), (3, .int ((zbrn rd nv n s).2.1)), (2, .int ((zbrn rd nv n s).1)), (0, .ref M), (1, .int (nI w))]) hx hb dX9_braced_106 hl (by decide) rfl (fun ls hl => ?_)
          refine lv_iinc (v := nI (i + 1)) (lv' := [(7, .int (nI (i + 1))), (6, .int (nI 0)), (5, .int (nI s)), (4, .int ((zbrn rd nv n s).2.2)), (3, .int ((zbrn rd nv n s).2.1)), (2, .int ((zbrn rd nv n s).1)), (0, .ref M), (1, .int (nI w))]) hx hb dX9_braced_108 hl (k := 1) rfl (z_inc _ 1) (by decide) rfl (fun ls hl => ?_)
          refine lv_goto (tgt := 49) hx hb dX9_braced_111 (by decide) ?_
          have hl : lv_has ls 8 [(7, .int (nI (i + 1))), (6, .int (nI 0)), (5, .int (nI s)), (4, .int ((zbrn rd nv n s).2.2)), (3, .int ((zbrn rd nv n s).2.1)), (2, .int ((zbrn rd nv n s).1)), (0, .ref M), (1, .int (nI w))] := lv_sub hl [0, 1, 2, 3, 4, 5, 6, 7] rfl
          have e_26 : nI 0 = (if zbr rd nv (nI s) (i + 1) = true then 1 else 0) := by first | (rw [if_neg (zbr_z hzn)]; rfl) | (rw [if_pos (zbr_y hzb (zbok_t (rd := rd) (nv := nv) (s := s) (i := i) (by assumption) (by assumption)))]; rfl) | (rw [if_pos (zbr_y hzb (zbok_t2 (rd := rd) (nv := nv) (s := s) (i := i) (by assumption) (by assumption)))]; rfl) | (rw [if_neg (zbr_x (zbok_f (rd := rd) (nv := nv) (s := s) (i := i) (by assumption) (by assumption)))]; rfl) | (rw [if_neg (zbr_x (zbok_f2 (rd := rd) (nv := nv) (s := s) (i := i) (by assumption) (by assumption)))]; rfl)
          have hl : lv_has ls 8 [(7, .int (nI (i + 1))), (6, .int (if zbr rd nv (nI s) (i + 1) = true then 1 else 0)), (5, .int (nI s)), (4, .int ((zbrn rd nv n s).2.2)), (3, .int ((zbrn rd nv n s).2.1)), (2, .int ((zbrn rd nv n s).1)), (0, .ref M), (1, .int (nI w))] := Eq.subst (motive := fun zz_ => lv_has ls 8 [(7, .int (nI (i + 1))), (6, .int zz_), (5, .int (nI s)), (4, .int ((zbrn rd nv n s).2.2)), (3, .int ((zbrn rd nv n s).2.1)), (2, .int ((zbrn rd nv n s).1)), (0, .ref M), (1, .int (nI w))]) e_26 hl
          exact ih_11 _ _ _ (by omega) ⟨hP, hD, hS, hl⟩
        · have c_25 := zb1 c_25
          have hzb := c_25
          refine lv_iload hx hb dX9_braced_63 (lv_at hl 2 rfl) ?_
          refine lv_iload hx hb dX9_braced_65 (lv_at hl 0 rfl) ?_
          refine z_callSi (As := [.int (nI s), .int (nI i)]) (rest := []) Z hP hD hS hl.1 (zc_X9_has l D cI cZ (nI s) i (by omega)) zm779 zm780 zm39 zm781 zd_X9_has ⟨Nat.le_of_ble_eq_true rfl, Nat.le_of_ble_eq_true rfl⟩ ⟨Nat.zero_le _, Nat.zero_le _⟩ [] rfl (by decide) (fun _ => rfl) rfl (Nat.le_of_ble_eq_true rfl) rfl dX9_braced_67 (fun r_27 u H locs h_28 hP hD hS => ?_)
          have hP : va_P D vwCl [(M, .inr (9, [.int (nI 0), .ref mtx, .int (nI len), .int (nI pl), .int rt, .int fr, .int pr, .ref mod_, .int (nI n), .ref mne, .ref mro, .int (nI m), .int rrt, .int rfr, .int rpr, .ref mrod, .int (nI rn9), .ref mrne, .ref mrro, .int (nI rm9), .ref mrp, .ref mpg, .ref mbk, .int (nI ac), .ref mke, .ref mik, .int (nI cr), .ref mrw, .ref mrd, .long sd, .ref mtr, .ref mwo, .ref mnx, .int jr])), (mne, .inl (cI, 5, .inl mv)), (mro, .inl (cI, 5, .inl md))] H := hP
          have hD : va_D A [(M, .inr (9, [.int (nI 0), .ref mtx, .int (nI len), .int (nI pl), .int rt, .int fr, .int pr, .ref mod_, .int (nI n), .ref mne, .ref mro, .int (nI m), .int rrt, .int rfr, .int rpr, .ref mrod, .int (nI rn9), .ref mrne, .ref mrro, .int (nI rm9), .ref mrp, .ref mpg, .ref mbk, .int (nI ac), .ref mke, .ref mik, .int (nI cr), .ref mrw, .ref mrd, .long sd, .ref mtr, .ref mwo, .ref mnx, .int jr])), (mne, .inl (cI, 5, .inl mv)), (mro, .inl (cI, 5, .inl md))] := hD
          have h_28 : r_27 = if zin (nI s) i then 1 else 0 := h_28
          subst h_28
          refine lv_aload_n hx hb dX9_braced_70 rfl (lv_at hl 6 rfl) ?_
          refine z_get (ci := 9) (v := .ref mro) Z zin9 hP 0 rfl rfl 10 (by decide) zm687 rfl rfl dX9_braced_71 ?_
          refine lv_iload hx hb dX9_braced_74 (lv_at hl 0 rfl) ?_
          refine z_iald (n := 5) (f := md) (j := i) Z hP 2 rfl (by omega) (by decide) dX9_braced_76 ?_
          refine z_top (y := rd i) (hrd i (by omega)) ?_
          refine lv_iload hx hb dX9_braced_77 (lv_at hl 2 rfl) ?_
          refine lv_iand hx hb dX9_braced_79 ?_
          refine z_top (y := (rd i) &&& (nI s)) rfl ?_
          refine z_callSi (As := [.int ((rd i) &&& (nI s))]) (rest := [.int (if zin (nI s) i then 1 else 0)]) Z hP hD hS hl.1 (zc_X9_many l D cI cZ ((rd i) &&& (nI s)) ) zm925 zm926 zm39 zm927 zd_X9_many ⟨Nat.le_of_ble_eq_true rfl, Nat.le_of_ble_eq_true rfl⟩ ⟨Nat.zero_le _, Nat.zero_le _⟩ [] rfl (by decide) (fun _ => rfl) rfl (Nat.le_of_ble_eq_true rfl) rfl dX9_braced_80 (fun r_29 u H locs h_30 hP hD hS => ?_)
          have hP : va_P D vwCl [(M, .inr (9, [.int (nI 0), .ref mtx, .int (nI len), .int (nI pl), .int rt, .int fr, .int pr, .ref mod_, .int (nI n), .ref mne, .ref mro, .int (nI m), .int rrt, .int rfr, .int rpr, .ref mrod, .int (nI rn9), .ref mrne, .ref mrro, .int (nI rm9), .ref mrp, .ref mpg, .ref mbk, .int (nI ac), .ref mke, .ref mik, .int (nI cr), .ref mrw, .ref mrd, .long sd, .ref mtr, .ref mwo, .ref mnx, .int jr])), (mne, .inl (cI, 5, .inl mv)), (mro, .inl (cI, 5, .inl md))] H := hP
          have hD : va_D A [(M, .inr (9, [.int (nI 0), .ref mtx, .int (nI len), .int (nI pl), .int rt, .int fr, .int pr, .ref mod_, .int (nI n), .ref mne, .ref mro, .int (nI m), .int rrt, .int rfr, .int rpr, .ref mrod, .int (nI rn9), .ref mrne, .ref mrro, .int (nI rm9), .ref mrp, .ref mpg, .ref mbk, .int (nI ac), .ref mke, .ref mik, .int (nI cr), .ref mrw, .ref mrd, .long sd, .ref mtr, .ref mwo, .ref mnx, .int jr])), (mne, .inl (cI, 5, .inl mv)), (mro, .inl (cI, 5, .inl md))] := hD
          have h_30 : r_29 = zmany ((rd i) &&& (nI s)) 5 := h_30
          subst h_30
          refine z_top (y := zbc (rd i &&& nI s)) (zmany_nI (by omega) _) ?_
          refine lv_aload_n hx hb dX9_braced_83 rfl (lv_at hl 6 rfl) ?_
          refine z_get (ci := 9) (v := .ref mne) Z zin9 hP 0 rfl rfl 9 (by decide) zm686 rfl rfl dX9_braced_84 ?_
          refine lv_iload hx hb dX9_braced_87 (lv_at hl 0 rfl) ?_
          refine z_iald (n := 5) (f := mv) (j := i) Z hP 1 rfl (by omega) (by decide) dX9_braced_89 ?_
          refine z_top (y := nv i) (hnv i (by omega)) ?_
          refine lv_icmp_lt (tgt := 97) hx hb dX9_braced_90 (by decide) (fun c_31 => ?_) (fun c_31 => ?_)
          · have c_31 : (zbc (rd i &&& nI s)) < (nv i) := c_31
            refine lv_iconst (v := nI 0) hx hb dX9_braced_97 (by decide) ?_
            refine lv_icmp_ne (tgt := 105) hx hb dX9_braced_98 (by decide) (fun c_32 => ?_) (fun c_32 => ?_)
            · have c_32 := zb1 c_32
              refine lv_iconst (v := nI 0) hx hb dX9_braced_105 (by decide) ?_
              refine lv_istore (lv' := [(6, .int (nI 0)), (7, .int (nI i)), (5, .int (nI s)), (4, .int ((zbrn rd nv n s).2.2)), (3, .int ((zbrn rd nv n s).2.1)), (2, .int ((zbrn rd nv n s).1)), (0, .ref M), (1, .int (nI w))]) hx hb dX9_braced_106 hl (by decide) rfl (fun ls hl => ?_)
              refine lv_iinc (v := nI (i + 1)) (lv' := [(7, .int (nI (i + 1))), (6, .int (nI 0)), (5, .int (nI s)), (4, .int ((zbrn rd nv n s).2.2)), (3, .int ((zbrn rd nv n s).2.1)), (2, .int ((zbrn rd nv n s).1)), (0, .ref M), (1, .int (nI w))]) hx hb dX9_braced_108 hl (k := 1) rfl (z_inc _ 1) (by decide) rfl (fun ls hl => ?_)
              refine lv_goto (tgt := 49) hx hb dX9_braced_111 (by decide) ?_
              have hl : lv_has ls 8 [(7, .int (nI (i + 1))), (6, .int (nI 0)), (5, .int (nI s)), (4, .int ((zbrn rd nv n s).2.2)), (3, .int ((zbrn rd nv n s).2.1)), (2, .int ((zbrn rd nv n s).1)), (0, .ref M), (1, .int (nI w))] := lv_sub hl [0, 1, 2, 3, 4, 5, 6, 7] rfl
              have e_33 : nI 0 = (if zbr rd nv (nI s) (i + 1) = true then 1 else 0) := by first | (rw [if_neg (zbr_z hzn)]; rfl) | (rw [if_pos (zbr_y hzb (zbok_t (rd := rd) (nv := nv) (s := s) (i := i) (by assumption) (by assumption)))]; rfl) | (rw [if_pos (zbr_y hzb (zbok_t2 (rd := rd) (nv := nv) (s := s) (i := i) (by assumption) (by assumption)))]; rfl) | (rw [if_neg (zbr_x (zbok_f (rd := rd) (nv := nv) (s := s) (i := i) (by assumption) (by assumption)))]; rfl) | (rw [if_neg (zbr_x (zbok_f2 (rd := rd) (nv := nv) (s := s) (i := i) (by assumption) (by assumption)))]; rfl)
              have hl : lv_has ls 8 [(7, .int (nI (i + 1))), (6, .int (if zbr rd nv (nI s) (i + 1) = true then 1 else 0)), (5, .int (nI s)), (4, .int ((zbrn rd nv n s).2.2)), (3, .int ((zbrn rd nv n s).2.1)), (2, .int ((zbrn rd nv n s).1)), (0, .ref M), (1, .int (nI w))] := Eq.subst (motive := fun zz_ => lv_has ls 8 [(7, .int (nI (i + 1))), (6, .int zz_), (5, .int (nI s)), (4, .int ((zbrn rd nv n s).2.2)), (3, .int ((zbrn rd nv n s).2.1)), (2, .int ((zbrn rd nv n s).1)), (0, .ref M), (1, .int (nI w))]) e_33 hl
              exact ih_11 _ _ _ (by omega) ⟨hP, hD, hS, hl⟩
            · have c_32 := zb0 c_32
              refine lv_iconst (v := nI 1) hx hb dX9_braced_101 (by decide) ?_
              refine lv_goto (tgt := 106) hx hb dX9_braced_102 (by decide) ?_
              refine lv_istore (lv' := [(6, .int (nI 1)), (7, .int (nI i)), (5, .int (nI s)), (4, .int ((zbrn rd nv n s).2.2)), (3, .int ((zbrn rd nv n s).2.1)), (2, .int ((zbrn rd nv n s).1)), (0, .ref M), (1, .int (nI w))]) hx hb dX9_braced_106 hl (by decide) rfl (fun ls hl => ?_)
              refine lv_iinc (v := nI (i + 1)) (lv' := [(7, .int (nI (i + 1))), (6, .int (nI 1)), (5, .int (nI s)), (4, .int ((zbrn rd nv n s).2.2)), (3, .int ((zbrn rd nv n s).2.1)), (2, .int ((zbrn rd nv n s).1)), (0, .ref M), (1, .int (nI w))]) hx hb dX9_braced_108 hl (k := 1) rfl (z_inc _ 1) (by decide) rfl (fun ls hl => ?_)
              refine lv_goto (tgt := 49) hx hb dX9_braced_111 (by decide) ?_
              have hl : lv_has ls 8 [(7, .int (nI (i + 1))), (6, .int (nI 1)), (5, .int (nI s)), (4, .int ((zbrn rd nv n s).2.2)), (3, .int ((zbrn rd nv n s).2.1)), (2, .int ((zbrn rd nv n s).1)), (0, .ref M), (1, .int (nI w))] := lv_sub hl [0, 1, 2, 3, 4, 5, 6, 7] rfl
              have e_34 : nI 1 = (if zbr rd nv (nI s) (i + 1) = true then 1 else 0) := by first | (rw [if_neg (zbr_z hzn)]; rfl) | (rw [if_pos (zbr_y hzb (zbok_t (rd := rd) (nv := nv) (s := s) (i := i) (by assumption) (by assumption)))]; rfl) | (rw [if_pos (zbr_y hzb (zbok_t2 (rd := rd) (nv := nv) (s := s) (i := i) (by assumption) (by assumption)))]; rfl) | (rw [if_neg (zbr_x (zbok_f (rd := rd) (nv := nv) (s := s) (i := i) (by assumption) (by assumption)))]; rfl) | (rw [if_neg (zbr_x (zbok_f2 (rd := rd) (nv := nv) (s := s) (i := i) (by assumption) (by assumption)))]; rfl)
              have hl : lv_has ls 8 [(7, .int (nI (i + 1))), (6, .int (if zbr rd nv (nI s) (i + 1) = true then 1 else 0)), (5, .int (nI s)), (4, .int ((zbrn rd nv n s).2.2)), (3, .int ((zbrn rd nv n s).2.1)), (2, .int ((zbrn rd nv n s).1)), (0, .ref M), (1, .int (nI w))] := Eq.subst (motive := fun zz_ => lv_has ls 8 [(7, .int (nI (i + 1))), (6, .int zz_), (5, .int (nI s)), (4, .int ((zbrn rd nv n s).2.2)), (3, .int ((zbrn rd nv n s).2.1)), (2, .int ((zbrn rd nv n s).1)), (0, .ref M), (1, .int (nI w))]) e_34 hl
              exact ih_11 _ _ _ (by omega) ⟨hP, hD, hS, hl⟩
          · have c_31 : ¬ ((zbc (rd i &&& nI s)) < (nv i)) := c_31
            refine lv_iconst (v := nI 1) hx hb dX9_braced_93 (by decide) ?_
            refine lv_goto (tgt := 98) hx hb dX9_braced_94 (by decide) ?_
            refine lv_icmp_ne (tgt := 105) hx hb dX9_braced_98 (by decide) (fun c_35 => ?_) (fun c_35 => ?_)
            · have c_35 := zbi0 c_35
              refine lv_iconst (v := nI 0) hx hb dX9_braced_105 (by decide) ?_
              refine lv_istore (lv' := [(6, .int (nI 0)), (7, .int (nI i)), (5, .int (nI s)), (4, .int ((zbrn rd nv n s).2.2)), (3, .int ((zbrn rd nv n s).2.1)), (2, .int ((zbrn rd nv n s).1)), (0, .ref M), (1, .int (nI w))]) hx hb dX9_braced_106 hl (by decide) rfl (fun ls hl => ?_)
              refine lv_iinc (v := nI (i + 1)) (lv' := [(7, .int (nI (i + 1))), (6, .int (nI 0)), (5, .int (nI s)), (4, .int ((zbrn rd nv n s).2.2)), (3, .int ((zbrn rd nv n s).2.1)), (2, .int ((zbrn rd nv n s).1)), (0, .ref M), (1, .int (nI w))]) hx hb dX9_braced_108 hl (k := 1) rfl (z_inc _ 1) (by decide) rfl (fun ls hl => ?_)
              refine lv_goto (tgt := 49) hx hb dX9_braced_111 (by decide) ?_
              have hl : lv_has ls 8 [(7, .int (nI (i + 1))), (6, .int (nI 0)), (5, .int (nI s)), (4, .int ((zbrn rd nv n s).2.2)), (3, .int ((zbrn rd nv n s).2.1)), (2, .int ((zbrn rd nv n s).1)), (0, .ref M), (1, .int (nI w))] := lv_sub hl [0, 1, 2, 3, 4, 5, 6, 7] rfl
              have e_36 : nI 0 = (if zbr rd nv (nI s) (i + 1) = true then 1 else 0) := by first | (rw [if_neg (zbr_z hzn)]; rfl) | (rw [if_pos (zbr_y hzb (zbok_t (rd := rd) (nv := nv) (s := s) (i := i) (by assumption) (by assumption)))]; rfl) | (rw [if_pos (zbr_y hzb (zbok_t2 (rd := rd) (nv := nv) (s := s) (i := i) (by assumption) (by assumption)))]; rfl) | (rw [if_neg (zbr_x (zbok_f (rd := rd) (nv := nv) (s := s) (i := i) (by assumption) (by assumption)))]; rfl) | (rw [if_neg (zbr_x (zbok_f2 (rd := rd) (nv := nv) (s := s) (i := i) (by assumption) (by assumption)))]; rfl)
              have hl : lv_has ls 8 [(7, .int (nI (i + 1))), (6, .int (if zbr rd nv (nI s) (i + 1) = true then 1 else 0)), (5, .int (nI s)), (4, .int ((zbrn rd nv n s).2.2)), (3, .int ((zbrn rd nv n s).2.1)), (2, .int ((zbrn rd nv n s).1)), (0, .ref M), (1, .int (nI w))] := Eq.subst (motive := fun zz_ => lv_has ls 8 [(7, .int (nI (i + 1))), (6, .int zz_), (5, .int (nI s)), (4, .int ((zbrn rd nv n s).2.2)), (3, .int ((zbrn rd nv n s).2.1)), (2, .int ((zbrn rd nv n s).1)), (0, .ref M), (1, .int (nI w))]) e_36 hl
              exact ih_11 _ _ _ (by omega) ⟨hP, hD, hS, hl⟩
            · have c_35 := zbi1 c_35
              refine lv_iconst (v := nI 1) hx hb dX9_braced_101 (by decide) ?_
              refine lv_goto (tgt := 106) hx hb dX9_braced_102 (by decide) ?_
              refine lv_istore (lv' := [(6, .int (nI 1)), (7, .int (nI i)), (5, .int (nI s)), (4, .int ((zbrn rd nv n s).2.2)), (3, .int ((zbrn rd nv n s).2.1)), (2, .int ((zbrn rd nv n s).1)), (0, .ref M), (1, .int (nI w))]) hx hb dX9_braced_106 hl (by decide) rfl (fun ls hl => ?_)
              refine lv_iinc (v := nI (i + 1)) (lv' := [(7, .int (nI (i + 1))), (6, .int (nI 1)), (5, .int (nI s)), (4, .int ((zbrn rd nv n s).2.2)), (3, .int ((zbrn rd nv n s).2.1)), (2, .int ((zbrn rd nv n s).1)), (0, .ref M), (1, .int (nI w))]) hx hb dX9_braced_108 hl (k := 1) rfl (z_inc _ 1) (by decide) rfl (fun ls hl => ?_)
              refine lv_goto (tgt := 49) hx hb dX9_braced_111 (by decide) ?_
              have hl : lv_has ls 8 [(7, .int (nI (i + 1))), (6, .int (nI 1)), (5, .int (nI s)), (4, .int ((zbrn rd nv n s).2.2)), (3, .int ((zbrn rd nv n s).2.1)), (2, .int ((zbrn rd nv n s).1)), (0, .ref M), (1, .int (nI w))] := lv_sub hl [0, 1, 2, 3, 4, 5, 6, 7] rfl
              have e_37 : nI 1 = (if zbr rd nv (nI s) (i + 1) = true then 1 else 0) := by first | (rw [if_neg (zbr_z hzn)]; rfl) | (rw [if_pos (zbr_y hzb (zbok_t (rd := rd) (nv := nv) (s := s) (i := i) (by assumption) (by assumption)))]; rfl) | (rw [if_pos (zbr_y hzb (zbok_t2 (rd := rd) (nv := nv) (s := s) (i := i) (by assumption) (by assumption)))]; rfl) | (rw [if_neg (zbr_x (zbok_f (rd := rd) (nv := nv) (s := s) (i := i) (by assumption) (by assumption)))]; rfl) | (rw [if_neg (zbr_x (zbok_f2 (rd := rd) (nv := nv) (s := s) (i := i) (by assumption) (by assumption)))]; rfl)
              have hl : lv_has ls 8 [(7, .int (nI (i + 1))), (6, .int (if zbr rd nv (nI s) (i + 1) = true then 1 else 0)), (5, .int (nI s)), (4, .int ((zbrn rd nv n s).2.2)), (3, .int ((zbrn rd nv n s).2.1)), (2, .int ((zbrn rd nv n s).1)), (0, .ref M), (1, .int (nI w))] := Eq.subst (motive := fun zz_ => lv_has ls 8 [(7, .int (nI (i + 1))), (6, .int zz_), (5, .int (nI s)), (4, .int ((zbrn rd nv n s).2.2)), (3, .int ((zbrn rd nv n s).2.1)), (2, .int ((zbrn rd nv n s).1)), (0, .ref M), (1, .int (nI w))]) e_37 hl
              exact ih_11 _ _ _ (by omega) ⟨hP, hD, hS, hl⟩
  · have c_3 := zb0 c_3
    have hrgn := fun q => c_3 ((zinr (x := x1) 0 2 rfl rfl).mpr q)
    refine lv_bipush (v := -2) hx hb dX9_braced_17 (by decide) ?_
    exact z_iret Z () (by first | rw [zRa_n hrgn] | (rw [zRa_y hw0 hw (by decide)]; first | (rw [zb3_0 (by assumption)]; done) | (rw [zb3_1 (by assumption)]; done) | (rw [zb3_2 (by assumption) (by assumption) hw]; done)) | rfl) hP hS dX9_braced_19
