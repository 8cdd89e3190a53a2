theorem zek {e : Nat → Nat} {k : Nat} (h : e 0 + e 1 + e 2 + e 3 = 10) (hk : k < 4) : e k ≤ 10 := by
  rcases (show k = 0 ∨ k = 1 ∨ k = 2 ∨ k = 3 by omega) with rfl | rfl | rfl | rfl <;> omega
theorem zes_4 {e : Nat → Nat} (h : e 0 + e 1 + e 2 + e 3 = 10) : zes e 4 = 10 := by simp only [zes]; omega
theorem zes_k {e : Nat → Nat} {q k : Nat} (h : e 0 + e 1 + e 2 + e 3 = 10) (hq : q < 10) (hk : k < 4) (h2 : zes e (k + 1) ≤ q) : k + 1 < 4 := by
  have h4 := zes_4 h
  rcases (show k + 1 < 4 ∨ k + 1 = 4 by omega) with r | r
  · exact r
  · rw [r] at h2; omega
theorem zes_a {e : Nat → Nat} {q k : Nat} (h : ∀ j, j < k → zes e (j + 1) ≤ q) (h2 : zes e (k + 1) ≤ q) : ∀ j, j < k + 1 → zes e (j + 1) ≤ q := by
  intro j hj
  rcases (show j < k ∨ j = k by omega) with r | r
  · exact h j r
  · rw [r]; exact h2
theorem zwkG_s {od f g2 : Nat → Int32} {rt fr : Int32} {n i k q : Nat} {s : Int64} (h : zpr n (zcome (zwkG od f rt fr n s i) rt fr n k) g2) (hk : k = zdw od (nI q)) (hq : zdr (zwkS s (i + 1)) = nI q) : zpr n (zwkG od f rt fr n s (i + 1)) g2 := by
  rw [hk, ← hq] at h; exact h
theorem zco_m {g : Nat → Int32} {i : Nat} : zco g i + 1000000 + g (20 + i) = zco g (i + 1) + 1000000 := by
  show _ = zco g i + g (20 + i) + 1000000
  generalize zco g i = x; generalize g (20 + i) = y
  rw [Int32.add_assoc, Int32.add_assoc, Int32.add_comm 1000000 y]
theorem zco_0 {g : Nat → Int32} : nI 1000000 = zco g 0 + 1000000 := by show _ = (0 : Int32) + 1000000; decide
theorem dX9_week_0 : decode cX9_week 0 = .ok (.aload_n 0, 1) := by decide +kernel
theorem dX9_week_1 : decode cX9_week 1 = .ok (.iconst 0, 1) := by decide +kernel
theorem dX9_week_2 : decode cX9_week 2 = .ok (.putfield 62, 3) := by decide +kernel
theorem dX9_week_5 : decode cX9_week 5 = .ok (.iload_n 1, 1) := by decide +kernel
theorem dX9_week_6 : decode cX9_week 6 = .ok (.i2l, 1) := by decide +kernel
theorem dX9_week_7 : decode cX9_week 7 = .ok (.lconst 1, 1) := by decide +kernel
theorem dX9_week_8 : decode cX9_week 8 = .ok (.ldc2_w 230, 3) := by decide +kernel
theorem dX9_week_11 : decode cX9_week 11 = .ok (.invokestatic 69, 3) := by decide +kernel
theorem dX9_week_14 : decode cX9_week 14 = .ok (.ifCond .ne 6, 3) := by decide +kernel
theorem dX9_week_17 : decode cX9_week 17 = .ok (.bipush (-2), 2) := by decide +kernel
theorem dX9_week_19 : decode cX9_week 19 = .ok (.ireturn, 1) := by decide +kernel
theorem dX9_week_20 : decode cX9_week 20 = .ok (.aload_n 0, 1) := by decide +kernel
theorem dX9_week_21 : decode cX9_week 21 = .ok (.invokevirtual 201, 3) := by decide +kernel
theorem dX9_week_24 : decode cX9_week 24 = .ok (.iconst 0, 1) := by decide +kernel
theorem dX9_week_25 : decode cX9_week 25 = .ok (.istore_n 2, 1) := by decide +kernel
theorem dX9_week_26 : decode cX9_week 26 = .ok (.iload_n 2, 1) := by decide +kernel
theorem dX9_week_27 : decode cX9_week 27 = .ok (.iload_n 1, 1) := by decide +kernel
theorem dX9_week_28 : decode cX9_week 28 = .ok (.if_icmp .ge 79, 3) := by decide +kernel
theorem dX9_week_31 : decode cX9_week 31 = .ok (.aload_n 0, 1) := by decide +kernel
theorem dX9_week_32 : decode cX9_week 32 = .ok (.aload_n 0, 1) := by decide +kernel
theorem dX9_week_33 : decode cX9_week 33 = .ok (.getfield 226, 3) := by decide +kernel
theorem dX9_week_36 : decode cX9_week 36 = .ok (.ldc2_w 232, 3) := by decide +kernel
theorem dX9_week_39 : decode cX9_week 39 = .ok (.lmul, 1) := by decide +kernel
theorem dX9_week_40 : decode cX9_week 40 = .ok (.ldc2_w 234, 3) := by decide +kernel
theorem dX9_week_43 : decode cX9_week 43 = .ok (.ladd, 1) := by decide +kernel
theorem dX9_week_44 : decode cX9_week 44 = .ok (.putfield 226, 3) := by decide +kernel
theorem dX9_week_47 : decode cX9_week 47 = .ok (.aload_n 0, 1) := by decide +kernel
theorem dX9_week_48 : decode cX9_week 48 = .ok (.getfield 226, 3) := by decide +kernel
theorem dX9_week_51 : decode cX9_week 51 = .ok (.bipush 33, 2) := by decide +kernel
theorem dX9_week_53 : decode cX9_week 53 = .ok (.lushr, 1) := by decide +kernel
theorem dX9_week_54 : decode cX9_week 54 = .ok (.ldc2_w 236, 3) := by decide +kernel
theorem dX9_week_57 : decode cX9_week 57 = .ok (.lrem, 1) := by decide +kernel
theorem dX9_week_58 : decode cX9_week 58 = .ok (.l2i, 1) := by decide +kernel
theorem dX9_week_59 : decode cX9_week 59 = .ok (.istore_n 3, 1) := by decide +kernel
theorem dX9_week_60 : decode cX9_week 60 = .ok (.iconst 0, 1) := by decide +kernel
theorem dX9_week_61 : decode cX9_week 61 = .ok (.istore 4, 2) := by decide +kernel
theorem dX9_week_63 : decode cX9_week 63 = .ok (.iload_n 3, 1) := by decide +kernel
theorem dX9_week_64 : decode cX9_week 64 = .ok (.aload_n 0, 1) := by decide +kernel
theorem dX9_week_65 : decode cX9_week 65 = .ok (.getfield 13, 3) := by decide +kernel
theorem dX9_week_68 : decode cX9_week 68 = .ok (.iload 4, 2) := by decide +kernel
theorem dX9_week_70 : decode cX9_week 70 = .ok (.iaload, 1) := by decide +kernel
theorem dX9_week_71 : decode cX9_week 71 = .ok (.if_icmp .lt 19, 3) := by decide +kernel
theorem dX9_week_74 : decode cX9_week 74 = .ok (.iload_n 3, 1) := by decide +kernel
theorem dX9_week_75 : decode cX9_week 75 = .ok (.aload_n 0, 1) := by decide +kernel
theorem dX9_week_76 : decode cX9_week 76 = .ok (.getfield 13, 3) := by decide +kernel
theorem dX9_week_79 : decode cX9_week 79 = .ok (.iload 4, 2) := by decide +kernel
theorem dX9_week_81 : decode cX9_week 81 = .ok (.iaload, 1) := by decide +kernel
theorem dX9_week_82 : decode cX9_week 82 = .ok (.isub, 1) := by decide +kernel
theorem dX9_week_83 : decode cX9_week 83 = .ok (.istore_n 3, 1) := by decide +kernel
theorem dX9_week_84 : decode cX9_week 84 = .ok (.iinc 4 1, 3) := by decide +kernel
theorem dX9_week_87 : decode cX9_week 87 = .ok (.goto (-24), 3) := by decide +kernel
theorem dX9_week_90 : decode cX9_week 90 = .ok (.aload_n 0, 1) := by decide +kernel
theorem dX9_week_91 : decode cX9_week 91 = .ok (.aload_n 0, 1) := by decide +kernel
theorem dX9_week_92 : decode cX9_week 92 = .ok (.getfield 53, 3) := by decide +kernel
theorem dX9_week_95 : decode cX9_week 95 = .ok (.iload 4, 2) := by decide +kernel
theorem dX9_week_97 : decode cX9_week 97 = .ok (.invokevirtual 170, 3) := by decide +kernel
theorem dX9_week_100 : decode cX9_week 100 = .ok (.pop, 1) := by decide +kernel
theorem dX9_week_101 : decode cX9_week 101 = .ok (.iinc 2 1, 3) := by decide +kernel
theorem dX9_week_104 : decode cX9_week 104 = .ok (.goto (-78), 3) := by decide +kernel
theorem dX9_week_107 : decode cX9_week 107 = .ok (.ldc 238, 2) := by decide +kernel
theorem dX9_week_109 : decode cX9_week 109 = .ok (.istore_n 2, 1) := by decide +kernel
theorem dX9_week_110 : decode cX9_week 110 = .ok (.iconst 0, 1) := by decide +kernel
theorem dX9_week_111 : decode cX9_week 111 = .ok (.istore_n 3, 1) := by decide +kernel
theorem dX9_week_112 : decode cX9_week 112 = .ok (.iload_n 3, 1) := by decide +kernel
theorem dX9_week_113 : decode cX9_week 113 = .ok (.aload_n 0, 1) := by decide +kernel
theorem dX9_week_114 : decode cX9_week 114 = .ok (.getfield 66, 3) := by decide +kernel
theorem dX9_week_117 : decode cX9_week 117 = .ok (.if_icmp .ge 23, 3) := by decide +kernel
theorem dX9_week_120 : decode cX9_week 120 = .ok (.iload_n 2, 1) := by decide +kernel
theorem dX9_week_121 : decode cX9_week 121 = .ok (.aload_n 0, 1) := by decide +kernel
theorem dX9_week_122 : decode cX9_week 122 = .ok (.getfield 53, 3) := by decide +kernel
theorem dX9_week_125 : decode cX9_week 125 = .ok (.bipush 7, 2) := by decide +kernel
theorem dX9_week_127 : decode cX9_week 127 = .ok (.iload_n 3, 1) := by decide +kernel
theorem dX9_week_128 : decode cX9_week 128 = .ok (.imul, 1) := by decide +kernel
theorem dX9_week_129 : decode cX9_week 129 = .ok (.iconst 4, 1) := by decide +kernel
theorem dX9_week_130 : decode cX9_week 130 = .ok (.iadd, 1) := by decide +kernel
theorem dX9_week_131 : decode cX9_week 131 = .ok (.iaload, 1) := by decide +kernel
theorem dX9_week_132 : decode cX9_week 132 = .ok (.iadd, 1) := by decide +kernel
theorem dX9_week_133 : decode cX9_week 133 = .ok (.istore_n 2, 1) := by decide +kernel
theorem dX9_week_134 : decode cX9_week 134 = .ok (.iinc 3 1, 3) := by decide +kernel
theorem dX9_week_137 : decode cX9_week 137 = .ok (.goto (-25), 3) := by decide +kernel
theorem dX9_week_140 : decode cX9_week 140 = .ok (.iload_n 2, 1) := by decide +kernel
theorem dX9_week_141 : decode cX9_week 141 = .ok (.ireturn, 1) := by decide +kernel
theorem zd_X9_week : yX9_week.cls ≠ "java/lang/invoke/MethodHandle" ∧ yX9_week.cls ≠ "java/lang/invoke/VarHandle" ∧ (parseMethodDescriptor yX9_week.desc).map (fun d => d.parameters.length) = some 1 := by decide +kernel
set_option maxHeartbeats 4000000 in
set_option maxRecDepth 100000 in
theorem zc_X9_week (l : Launch) (D : va_G) (cI cZ : ClassId) (M : Nat) (th : Int32) (mtx : Nat) (len : Nat) (pl : Nat) (rt : Int32) (fr : Int32) (pr : Int32) (mod_ : Nat) (n : Nat) (mne : Nat) (mro : Nat) (m : Nat) (rrt : Int32) (rfr : Int32) (rpr : Int32) (mrod : Nat) (rn9 : Nat) (mrne : Nat) (mrro : Nat) (rm9 : Nat) (mrp : Nat) (mpg : Nat) (mbk : Nat) (ac : Nat) (mke : Nat) (mik : Nat) (cr : Nat) (mrw : Nat) (mrd : Nat) (sd : Int64) (mtr : Nat) (mwo : Nat) (mnx : Nat) (jr : Int32) (od : Nat → Int32) (g : Nat → Int32) (f : Nat → Int32) (t : Nat → Int32) (x1 : Int32) (hn : n ≤ 5) (hpg : zpr n f g) (hpv : zpv n f) (hov : zov od) : zI l yX9_week cX9_week 5 .int 3 74 D cI cZ [.ref M, .int x1] [(M, .inr (9, [.int th, .ref mtx, .int (nI len), .int (nI pl), .int rt, .int fr, .int pr, .ref mod_, .int (nI n), .ref mne, .ref mro, .int (nI m), .int rrt, .int rfr, .int rpr, .ref mrod, .int (nI rn9), .ref mrne, .ref mrro, .int (nI rm9), .ref mrp, .ref mpg, .ref mbk, .int (nI ac), .ref mke, .ref mik, .int (nI cr), .ref mrw, .ref mrd, .long sd, .ref mtr, .ref mwo, .ref mnx, .int jr])), (mod_, .inl (cI, 4, .inl od)), (mpg, .inl (cI, 36, .inl g)), (mtr, .inl (cI, 36, .inl t))] (fun (r : Int32) (u : (Nat → Int32)) => r = zRa 1 30 x1 (fun w => zco (zwkG od f rt fr n sd w) n + 1000000) (-2)) (fun (u : (Nat → Int32)) => [(M, .inr (9, [.int (nI 0), .ref mtx, .int (nI len), .int (nI pl), .int rt, .int fr, .int pr, .ref mod_, .int (nI n), .ref mne, .ref mro, .int (nI m), .int rrt, .int rfr, .int rpr, .ref mrod, .int (nI rn9), .ref mrne, .ref mrro, .int (nI rm9), .ref mrp, .ref mpg, .ref mbk, .int (nI ac), .ref mke, .ref mik, .int (nI cr), .ref mrw, .ref mrd, .long (zRa 1 30 x1 (fun w => zwkS sd w) sd), .ref mtr, .ref mwo, .ref mnx, .int jr])), (mod_, .inl (cI, 4, .inl od)), (mpg, .inl (cI, 36, .inl g)), (mtr, .inl (cI, 36, .inl u))]) := by
  refine zI_of (by decide) (Nat.le_of_ble_eq_true rfl) ?_
  intro pP eE sS mM aA bB mT cC A ls Z hP hD hS hl
  have hx := Z.1
  have hb := Z.2.1
  have hown := Z.2.2.2.2.2.1
  have hts := Z.2.2.2.2.1
  have Z : zAt pP sS mM aA mT cC D cI cZ A "SurpriseTaxModel" cX9_week 5 (some .int) := Z
  have hl : lv_has ls 5 [(0, .ref M), (1, .int x1)] := hl
  obtain ⟨H, hH⟩ : ∃ H, H = sS.heap := ⟨_, rfl⟩
  have hP : va_P D vwCl [(M, .inr (9, [.int th, .ref mtx, .int (nI len), .int (nI pl), .int rt, .int fr, .int pr, .ref mod_, .int (nI n), .ref mne, .ref mro, .int (nI m), .int rrt, .int rfr, .int rpr, .ref mrod, .int (nI rn9), .ref mrne, .ref mrro, .int (nI rm9), .ref mrp, .ref mpg, .ref mbk, .int (nI ac), .ref mke, .ref mik, .int (nI cr), .ref mrw, .ref mrd, .long sd, .ref mtr, .ref mwo, .ref mnx, .int jr])), (mod_, .inl (cI, 4, .inl od)), (mpg, .inl (cI, 36, .inl g)), (mtr, .inl (cI, 36, .inl t))] H := by rw [hH]; exact hP
  have hS : va_S A sS.heap H [] := by rw [hH]; exact hS
  rw [← hH]
  clear hH
  obtain ⟨locs, hlo⟩ : ∃ q : List Loc, q = [] := ⟨_, rfl⟩
  rw [← hlo] at hS ⊢
  clear hlo
  refine lv_aload_n hx hb dX9_week_0 rfl (lv_at hl 0 rfl) ?_
  refine lv_iconst (v := nI 0) hx hb dX9_week_1 (by decide) ?_
  refine z_put (ci := 9) (v := .int (nI 0)) Z zin9 tyX9 tyX9_ok nmX9 hP hD hS 0 rfl rfl 0 (by decide) zm677 rfl rfl rfl rfl (Nat.le_of_ble_eq_true rfl) dX9_week_2 (fun H locs hP hD hS => ?_)
  have hP : va_P D vwCl [(M, .inr (9, [.int (nI 0), .ref mtx, .int (nI len), .int (nI pl), .int rt, .int fr, .int pr, .ref mod_, .int (nI n), .ref mne, .ref mro, .int (nI m), .int rrt, .int rfr, .int rpr, .ref mrod, .int (nI rn9), .ref mrne, .ref mrro, .int (nI rm9), .ref mrp, .ref mpg, .ref mbk, .int (nI ac), .ref mke, .ref mik, .int (nI cr), .ref mrw, .ref mrd, .long sd, .ref mtr, .ref mwo, .ref mnx, .int jr])), (mod_, .inl (cI, 4, .inl od)), (mpg, .inl (cI, 36, .inl g)), (mtr, .inl (cI, 36, .inl t))] H := hP
  have hD : va_D A [(M, .inr (9, [.int (nI 0), .ref mtx, .int (nI len), .int (nI pl), .int rt, .int fr, .int pr, .ref mod_, .int (nI n), .ref mne, .ref mro, .int (nI m), .int rrt, .int rfr, .int rpr, .ref mrod, .int (nI rn9), .ref mrne, .ref mrro, .int (nI rm9), .ref mrp, .ref mpg, .ref mbk, .int (nI ac), .ref mke, .ref mik, .int (nI cr), .ref mrw, .ref mrd, .long sd, .ref mtr, .ref mwo, .ref mnx, .int jr])), (mod_, .inl (cI, 4, .inl od)), (mpg, .inl (cI, 36, .inl g)), (mtr, .inl (cI, 36, .inl t))] := hD
  refine lv_iload_n hx hb dX9_week_5 rfl (lv_at hl 1 rfl) ?_
  refine lv_i2l (v := x1.toInt64) hx hb dX9_week_6 rfl ?_
  refine lv_lconst (v := 1) hx hb dX9_week_7 (by decide) ?_
  refine lv_ldc2 (v := 30) hx hb hown (hts _ zm945) dX9_week_8 ?_
  refine z_callSi (As := [.long x1.toInt64, .long 1, .long 30]) (rest := []) Z hP hD hS hl.1 (zc_X9_in l D cI cZ x1.toInt64 1 30 ) zm750 zm751 zm39 zm752 zd_X9_in ⟨Nat.le_of_ble_eq_true rfl, Nat.le_of_ble_eq_true rfl⟩ ⟨Nat.zero_le _, Nat.zero_le _⟩ [] rfl (by decide) (fun _ => rfl) rfl (Nat.le_of_ble_eq_true rfl) rfl dX9_week_11 (fun r_1 u H locs h_2 hP hD hS => ?_)
  have hP : va_P D vwCl [(M, .inr (9, [.int (nI 0), .ref mtx, .int (nI len), .int (nI pl), .int rt, .int fr, .int pr, .ref mod_, .int (nI n), .ref mne, .ref mro, .int (nI m), .int rrt, .int rfr, .int rpr, .ref mrod, .int (nI rn9), .ref mrne, .ref mrro, .int (nI rm9), .ref mrp, .ref mpg, .ref mbk, .int (nI ac), .ref mke, .ref mik, .int (nI cr), .ref mrw, .ref mrd, .long sd, .ref mtr, .ref mwo, .ref mnx, .int jr])), (mod_, .inl (cI, 4, .inl od)), (mpg, .inl (cI, 36, .inl g)), (mtr, .inl (cI, 36, .inl t))] H := hP
  have hD : va_D A [(M, .inr (9, [.int (nI 0), .ref mtx, .int (nI len), .int (nI pl), .int rt, .int fr, .int pr, .ref mod_, .int (nI n), .ref mne, .ref mro, .int (nI m), .int rrt, .int rfr, .int rpr, .ref mrod, .int (nI rn9), .ref mrne, .ref mrro, .int (nI rm9), .ref mrp, .ref mpg, .ref mbk, .int (nI ac), .ref mke, .ref mik, .int (nI cr), .ref mrw, .ref mrd, .long sd, .ref mtr, .ref mwo, .ref mnx, .int jr])), (mod_, .inl (cI, 4, .inl od)), (mpg, .inl (cI, 36, .inl g)), (mtr, .inl (cI, 36, .inl t))] := hD
  have h_2 : r_1 = if ¬ x1.toInt64 < 1 ∧ ¬ 30 < x1.toInt64 then 1 else 0 := h_2
  subst h_2
  refine lv_if_ne (tgt := 20) hx hb dX9_week_14 (by decide) (fun c_3 => ?_) (fun c_3 => ?_)
  · have c_3 := zb1 c_3
    have hrg := (zinr (x := x1) 1 30 rfl rfl).mp c_3
    obtain ⟨w, hw0, hw, rfl⟩ := zRa_of (lo := 1) (hi := 30) (by decide) (by decide) hrg.1 hrg.2
    obtain ⟨e, hoe, hos⟩ := hov
    refine lv_aload_n hx hb dX9_week_20 rfl (lv_at hl 0 rfl) ?_
    refine z_callVv (As := []) (rest := []) (ci := 9) (k0 := 0) Z hP hD hS hl.1 (zc_X9_begin l D cI cZ M (nI 0) mtx len pl rt fr pr mod_ n mne mro m rrt rfr rpr mrod rn9 mrne mrro rm9 mrp mpg mbk ac mke mik cr mrw mrd sd mtr mwo mnx jr g t ) zm884 zm885 zm28 zm39 zm886 ⟨rfl, zd_X9_begin⟩ ⟨Nat.le_of_ble_eq_true rfl, Nat.le_of_ble_eq_true rfl⟩ ⟨Nat.zero_le _, Nat.zero_le _⟩ [0, 2, 3] rfl (by decide) rfl rfl rfl (fun _ => rfl) rfl (Nat.le_of_ble_eq_true rfl) rfl dX9_week_21 (fun u H locs h_5 hP hD hS => ?_)
    have hP : va_P D vwCl [(M, .inr (9, [.int (nI 0), .ref mtx, .int (nI len), .int (nI pl), .int rt, .int fr, .int pr, .ref mod_, .int (nI n), .ref mne, .ref mro, .int (nI m), .int rrt, .int rfr, .int rpr, .ref mrod, .int (nI rn9), .ref mrne, .ref mrro, .int (nI rm9), .ref mrp, .ref mpg, .ref mbk, .int (nI ac), .ref mke, .ref mik, .int (nI cr), .ref mrw, .ref mrd, .long sd, .ref mtr, .ref mwo, .ref mnx, .int jr])), (mod_, .inl (cI, 4, .inl od)), (mpg, .inl (cI, 36, .inl g)), (mtr, .inl (cI, 36, .inl g))] H := hP
    have hD : va_D A [(M, .inr (9, [.int (nI 0), .ref mtx, .int (nI len), .int (nI pl), .int rt, .int fr, .int pr, .ref mod_, .int (nI n), .ref mne, .ref mro, .int (nI m), .int rrt, .int rfr, .int rpr, .ref mrod, .int (nI rn9), .ref mrne, .ref mrro, .int (nI rm9), .ref mrp, .ref mpg, .ref mbk, .int (nI ac), .ref mke, .ref mik, .int (nI cr), .ref mrw, .ref mrd, .long sd, .ref mtr, .ref mwo, .ref mnx, .int jr])), (mod_, .inl (cI, 4, .inl od)), (mpg, .inl (cI, 36, .inl g)), (mtr, .inl (cI, 36, .inl g))] := hD
    refine lv_iconst (v := nI 0) hx hb dX9_week_24 (by decide) ?_
    refine lv_istore_n (lv' := [(2, .int (nI 0)), (0, .ref M), (1, .int (nI w))]) hx hb dX9_week_25 rfl hl (by decide) rfl (fun ls hl => ?_)
    have e_7 : sd = zwkS sd 0 := by rfl
    have hP : va_P D vwCl [(M, .inr (9, [.int (nI 0), .ref mtx, .int (nI len), .int (nI pl), .int rt, .int fr, .int pr, .ref mod_, .int (nI n), .ref mne, .ref mro, .int (nI m), .int rrt, .int rfr, .int rpr, .ref mrod, .int (nI rn9), .ref mrne, .ref mrro, .int (nI rm9), .ref mrp, .ref mpg, .ref mbk, .int (nI ac), .ref mke, .ref mik, .int (nI cr), .ref mrw, .ref mrd, .long (zwkS sd 0), .ref mtr, .ref mwo, .ref mnx, .int jr])), (mod_, .inl (cI, 4, .inl od)), (mpg, .inl (cI, 36, .inl g)), (mtr, .inl (cI, 36, .inl g))] H := Eq.subst (motive := fun zz_ => va_P D vwCl [(M, .inr (9, [.int (nI 0), .ref mtx, .int (nI len), .int (nI pl), .int rt, .int fr, .int pr, .ref mod_, .int (nI n), .ref mne, .ref mro, .int (nI m), .int rrt, .int rfr, .int rpr, .ref mrod, .int (nI rn9), .ref mrne, .ref mrro, .int (nI rm9), .ref mrp, .ref mpg, .ref mbk, .int (nI ac), .ref mke, .ref mik, .int (nI cr), .ref mrw, .ref mrd, .long zz_, .ref mtr, .ref mwo, .ref mnx, .int jr])), (mod_, .inl (cI, 4, .inl od)), (mpg, .inl (cI, 36, .inl g)), (mtr, .inl (cI, 36, .inl g))] H) e_7 hP
    have hD : va_D A [(M, .inr (9, [.int (nI 0), .ref mtx, .int (nI len), .int (nI pl), .int rt, .int fr, .int pr, .ref mod_, .int (nI n), .ref mne, .ref mro, .int (nI m), .int rrt, .int rfr, .int rpr, .ref mrod, .int (nI rn9), .ref mrne, .ref mrro, .int (nI rm9), .ref mrp, .ref mpg, .ref mbk, .int (nI ac), .ref mke, .ref mik, .int (nI cr), .ref mrw, .ref mrd, .long (zwkS sd 0), .ref mtr, .ref mwo, .ref mnx, .int jr])), (mod_, .inl (cI, 4, .inl od)), (mpg, .inl (cI, 36, .inl g)), (mtr, .inl (cI, 36, .inl g))] := zD_of hD rfl
    have hl : lv_has ls 5 [(2, .int (nI 0)), (0, .ref M), (1, .int (nI w))] := lv_sub hl [0, 1, 2] rfl
    refine z_loopm (fun (x_ : Nat × (Nat → Int32)) H locs ls => va_P D vwCl [(M, .inr (9, [.int (nI 0), .ref mtx, .int (nI len), .int (nI pl), .int rt, .int fr, .int pr, .ref mod_, .int (nI n), .ref mne, .ref mro, .int (nI m), .int rrt, .int rfr, .int rpr, .ref mrod, .int (nI rn9), .ref mrne, .ref mrro, .int (nI rm9), .ref mrp, .ref mpg, .ref mbk, .int (nI ac), .ref mke, .ref mik, .int (nI cr), .ref mrw, .ref mrd, .long (zwkS sd x_.1), .ref mtr, .ref mwo, .ref mnx, .int jr])), (mod_, .inl (cI, 4, .inl od)), (mpg, .inl (cI, 36, .inl g)), (mtr, .inl (cI, 36, .inl x_.2))] H ∧ va_D A [(M, .inr (9, [.int (nI 0), .ref mtx, .int (nI len), .int (nI pl), .int rt, .int fr, .int pr, .ref mod_, .int (nI n), .ref mne, .ref mro, .int (nI m), .int rrt, .int rfr, .int rpr, .ref mrod, .int (nI rn9), .ref mrne, .ref mrro, .int (nI rm9), .ref mrp, .ref mpg, .ref mbk, .int (nI ac), .ref mke, .ref mik, .int (nI cr), .ref mrw, .ref mrd, .long (zwkS sd x_.1), .ref mtr, .ref mwo, .ref mnx, .int jr])), (mod_, .inl (cI, 4, .inl od)), (mpg, .inl (cI, 36, .inl g)), (mtr, .inl (cI, 36, .inl x_.2))] ∧ va_S A sS.heap H locs ∧ lv_has ls 5 [(2, .int (nI x_.1)), (0, .ref M), (1, .int (nI w))] ∧ (x_.1 ≤ w) ∧ (zpr n (zwkG od f rt fr n sd x_.1) x_.2)) (fun x_ => w - x_.1) (0, g) ⟨hP, hD, hS, hl, (by first | omega | exact hpg), (by first | omega | exact hpg)⟩ (fun x_ ih_6 H locs ls hI => ?_)
    obtain ⟨i, g9⟩ := x_
    obtain ⟨hP, hD, hS, hl, hv26_0, hv26_1⟩ := hI
    dsimp only at ih_6 hv26_0 hv26_1
    have hv26_0 : i ≤ w := hv26_0
    have hv26_1 : zpr n (zwkG od f rt fr n sd i) g9 := hv26_1
    have hP : va_P D vwCl [(M, .inr (9, [.int (nI 0), .ref mtx, .int (nI len), .int (nI pl), .int rt, .int fr, .int pr, .ref mod_, .int (nI n), .ref mne, .ref mro, .int (nI m), .int rrt, .int rfr, .int rpr, .ref mrod, .int (nI rn9), .ref mrne, .ref mrro, .int (nI rm9), .ref mrp, .ref mpg, .ref mbk, .int (nI ac), .ref mke, .ref mik, .int (nI cr), .ref mrw, .ref mrd, .long (zwkS sd i), .ref mtr, .ref mwo, .ref mnx, .int jr])), (mod_, .inl (cI, 4, .inl od)), (mpg, .inl (cI, 36, .inl g)), (mtr, .inl (cI, 36, .inl g9))] H := hP
    have hD : va_D A [(M, .inr (9, [.int (nI 0), .ref mtx, .int (nI len), .int (nI pl), .int rt, .int fr, .int pr, .ref mod_, .int (nI n), .ref mne, .ref mro, .int (nI m), .int rrt, .int rfr, .int rpr, .ref mrod, .int (nI rn9), .ref mrne, .ref mrro, .int (nI rm9), .ref mrp, .ref mpg, .ref mbk, .int (nI ac), .ref mke, .ref mik, .int (nI cr), .ref mrw, .ref mrd, .long (zwkS sd i), .ref mtr, .ref mwo, .ref mnx, .int jr])), (mod_, .inl (cI, 4, .inl od)), (mpg, .inl (cI, 36, .inl g)), (mtr, .inl (cI, 36, .inl g9))] := hD
    have hl : lv_has ls 5 [(2, .int (nI i)), (0, .ref M), (1, .int (nI w))] := hl
    refine lv_iload_n hx hb dX9_week_26 rfl (lv_at hl 0 rfl) ?_
    refine lv_iload_n hx hb dX9_week_27 rfl (lv_at hl 2 rfl) ?_
    refine lv_icmp_ge (tgt := 107) hx hb dX9_week_28 (by decide) (fun c_8 => ?_) (fun c_8 => ?_)
    · have c_8 := zle (i := w) (j := i) (by omega) (by omega) c_8
      have hE_ : w = i := by omega
      subst hE_
      refine lv_ldc (v := 1000000) hx hb hown (hts _ zm949) dX9_week_107 ?_
      refine lv_istore_n (lv' := [(2, .int 1000000), (0, .ref M), (1, .int (nI w))]) hx hb dX9_week_109 rfl hl (by decide) rfl (fun ls hl => ?_)
      refine lv_iconst (v := nI 0) hx hb dX9_week_110 (by decide) ?_
      refine lv_istore_n (lv' := [(3, .int (nI 0)), (2, .int 1000000), (0, .ref M), (1, .int (nI w))]) hx hb dX9_week_111 rfl hl (by decide) rfl (fun ls hl => ?_)
      have hl : lv_has ls 5 [(3, .int (nI 0)), (2, .int 1000000), (0, .ref M), (1, .int (nI w))] := lv_sub hl [0, 1, 2, 3] rfl
      have e_10 : 1000000 = zco (zwkG od f rt fr n sd w) 0 + 1000000 := by exact zco_0
      have hl : lv_has ls 5 [(3, .int (nI 0)), (2, .int (zco (zwkG od f rt fr n sd w) 0 + 1000000)), (0, .ref M), (1, .int (nI w))] := Eq.subst (motive := fun zz_ => lv_has ls 5 [(3, .int (nI 0)), (2, .int zz_), (0, .ref M), (1, .int (nI w))]) e_10 hl
      refine z_loop (fun p H locs ls => va_P D vwCl [(M, .inr (9, [.int (nI 0), .ref mtx, .int (nI len), .int (nI pl), .int rt, .int fr, .int pr, .ref mod_, .int (nI n), .ref mne, .ref mro, .int (nI m), .int rrt, .int rfr, .int rpr, .ref mrod, .int (nI rn9), .ref mrne, .ref mrro, .int (nI rm9), .ref mrp, .ref mpg, .ref mbk, .int (nI ac), .ref mke, .ref mik, .int (nI cr), .ref mrw, .ref mrd, .long (zwkS sd w), .ref mtr, .ref mwo, .ref mnx, .int jr])), (mod_, .inl (cI, 4, .inl od)), (mpg, .inl (cI, 36, .inl g)), (mtr, .inl (cI, 36, .inl g9))] H ∧ va_D A [(M, .inr (9, [.int (nI 0), .ref mtx, .int (nI len), .int (nI pl), .int rt, .int fr, .int pr, .ref mod_, .int (nI n), .ref mne, .ref mro, .int (nI m), .int rrt, .int rfr, .int rpr, .ref mrod, .int (nI rn9), .ref mrne, .ref mrro, .int (nI rm9), .ref mrp, .ref mpg, .ref mbk, .int (nI ac), .ref mke, .ref mik, .int (nI cr), .ref mrw, .ref mrd, .long (zwkS sd w), .ref mtr, .ref mwo, .ref mnx, .int jr])), (mod_, .inl (cI, 4, .inl od)), (mpg, .inl (cI, 36, .inl g)), (mtr, .inl (cI, 36, .inl g9))] ∧ va_S A sS.heap H locs ∧ lv_has ls 5 [(3, .int (nI p)), (2, .int (zco (zwkG od f rt fr n sd w) p + 1000000)), (0, .ref M), (1, .int (nI w))]) (n) (lo := 0) (by omega) ⟨hP, hD, hS, hl⟩ (fun p hi_p ih_9 H locs ls hI => ?_)
      obtain ⟨hP, hD, hS, hl⟩ := hI
      have hP : va_P D vwCl [(M, .inr (9, [.int (nI 0), .ref mtx, .int (nI len), .int (nI pl), .int rt, .int fr, .int pr, .ref mod_, .int (nI n), .ref mne, .ref mro, .int (nI m), .int rrt, .int rfr, .int rpr, .ref mrod, .int (nI rn9), .ref mrne, .ref mrro, .int (nI rm9), .ref mrp, .ref mpg, .ref mbk, .int (nI ac), .ref mke, .ref mik, .int (nI cr), .ref mrw, .ref mrd, .long (zwkS sd w), .ref mtr, .ref mwo, .ref mnx, .int jr])), (mod_, .inl (cI, 4, .inl od)), (mpg, .inl (cI, 36, .inl g)), (mtr, .inl (cI, 36, .inl g9))] H := hP
      have hD : va_D A [(M, .inr (9, [.int (nI 0), .ref mtx, .int (nI len), .int (nI pl), .int rt, .int fr, .int pr, .ref mod_, .int (nI n), .ref mne, .ref mro, .int (nI m), .int rrt, .int rfr, .int rpr, .ref mrod, .int (nI rn9), .ref mrne, .ref mrro, .int (nI rm9), .ref mrp, .ref mpg, .ref mbk, .int (nI ac), .ref mke, .ref mik, .int (nI cr), .ref mrw, .ref mrd, .long (zwkS sd w), .ref mtr, .ref mwo, .ref mnx, .int jr])), (mod_, .inl (cI, 4, .inl od)), (mpg, .inl (cI, 36, .inl g)), (mtr, .inl (cI, 36, .inl g9))] := hD
      have hl : lv_has ls 5 [(3, .int (nI p)), (2, .int (zco (zwkG od f rt fr n sd w) p + 1000000)), (0, .ref M), (1, .int (nI w))] := hl
      refine lv_iload_n hx hb dX9_week_112 rfl (lv_at hl 0 rfl) ?_
      refine lv_aload_n hx hb dX9_week_113 rfl (lv_at hl 2 rfl) ?_
      refine z_get (ci := 9) (v := .int (nI n)) Z zin9 hP 0 rfl rfl 8 (by decide) zm685 rfl rfl dX9_week_114 ?_
      refine lv_icmp_ge (tgt := 140) hx hb dX9_week_117 (by decide) (fun c_11 => ?_) (fun c_11 => ?_)
      · have c_11 := zle (i := n) (j := p) (by omega) (by omega) c_11
        have hE_ : n = p := by omega
        subst hE_
        refine lv_iload_n hx hb dX9_week_140 rfl (lv_at hl 1 rfl) ?_
        have e_12 : zwkS sd w = zRa 1 30 (nI w) (fun w => zwkS sd w) sd := by first | (rw [zRa_n hrgn]; done) | (rw [zRa_y hw0 hw (by decide)]; done)
        have hP : va_P D vwCl [(M, .inr (9, [.int (nI 0), .ref mtx, .int (nI len), .int (nI pl), .int rt, .int fr, .int pr, .ref mod_, .int (nI n), .ref mne, .ref mro, .int (nI m), .int rrt, .int rfr, .int rpr, .ref mrod, .int (nI rn9), .ref mrne, .ref mrro, .int (nI rm9), .ref mrp, .ref mpg, .ref mbk, .int (nI ac), .ref mke, .ref mik, .int (nI cr), .ref mrw, .ref mrd, .long (zRa 1 30 (nI w) (fun w => zwkS sd w) sd), .ref mtr, .ref mwo, .ref mnx, .int jr])), (mod_, .inl (cI, 4, .inl od)), (mpg, .inl (cI, 36, .inl g)), (mtr, .inl (cI, 36, .inl g9))] H := Eq.subst (motive := fun zz_ => va_P D vwCl [(M, .inr (9, [.int (nI 0), .ref mtx, .int (nI len), .int (nI pl), .int rt, .int fr, .int pr, .ref mod_, .int (nI n), .ref mne, .ref mro, .int (nI m), .int rrt, .int rfr, .int rpr, .ref mrod, .int (nI rn9), .ref mrne, .ref mrro, .int (nI rm9), .ref mrp, .ref mpg, .ref mbk, .int (nI ac), .ref mke, .ref mik, .int (nI cr), .ref mrw, .ref mrd, .long zz_, .ref mtr, .ref mwo, .ref mnx, .int jr])), (mod_, .inl (cI, 4, .inl od)), (mpg, .inl (cI, 36, .inl g)), (mtr, .inl (cI, 36, .inl g9))] H) e_12 hP
        have hD : va_D A [(M, .inr (9, [.int (nI 0), .ref mtx, .int (nI len), .int (nI pl), .int rt, .int fr, .int pr, .ref mod_, .int (nI n), .ref mne, .ref mro, .int (nI m), .int rrt, .int rfr, .int rpr, .ref mrod, .int (nI rn9), .ref mrne, .ref mrro, .int (nI rm9), .ref mrp, .ref mpg, .ref mbk, .int (nI ac), .ref mke, .ref mik, .int (nI cr), .ref mrw, .ref mrd, .long (zRa 1 30 (nI w) (fun w => zwkS sd w) sd), .ref mtr, .ref mwo, .ref mnx, .int jr])), (mod_, .inl (cI, 4, .inl od)), (mpg, .inl (cI, 36, .inl g)), (mtr, .inl (cI, 36, .inl g9))] := zD_of hD rfl
        exact z_iret Z (g9) (by first | (rw [zRa_n hrgn]; done) | (rw [zRa_y hw0 hw (by decide)]; done)) hP hS dX9_week_141
      · have c_11 := znle (i := n) (j := p) (by omega) (by omega) c_11
        refine lv_iload_n hx hb dX9_week_120 rfl (lv_at hl 1 rfl) ?_
        refine lv_aload_n hx hb dX9_week_121 rfl (lv_at hl 2 rfl) ?_
        refine z_get (ci := 9) (v := .ref mtr) Z zin9 hP 0 rfl rfl 30 (by decide) zm707 rfl rfl dX9_week_122 ?_
        refine lv_bipush (v := nI 7) hx hb dX9_week_125 (by decide) ?_
        refine lv_iload_n hx hb dX9_week_127 rfl (lv_at hl 0 rfl) ?_
        refine lv_imul hx hb dX9_week_128 ?_
        refine z_top (y := nI (7 * p)) (z_mul _ _) ?_
        refine lv_iconst (v := nI 4) hx hb dX9_week_129 (by decide) ?_
        refine lv_iadd hx hb dX9_week_130 ?_
        refine z_top (y := nI (7 * p + 4)) (z_add _ _) ?_
        refine z_iald (n := 36) (f := g9) (j := 7 * p + 4) Z hP 3 rfl (by omega) (by decide) dX9_week_131 ?_
        refine z_top (y := zwkG od f rt fr n sd w (20 + p)) ((hv26_1.1 p (by omega)).2.1) ?_
        refine lv_iadd hx hb dX9_week_132 ?_
        refine z_top (y := (zco (zwkG od f rt fr n sd w) p + 1000000) + (zwkG od f rt fr n sd w (20 + p))) rfl ?_
        refine lv_istore_n (lv' := [(2, .int ((zco (zwkG od f rt fr n sd w) p + 1000000) + (zwkG od f rt fr n sd w (20 + p)))), (3, .int (nI p)), (0, .ref M), (1, .int (nI w))]) hx hb dX9_week_133 rfl hl (by decide) rfl (fun ls hl => ?_)
        refine lv_iinc (v := nI (p + 1)) (lv' := [(3, .int (nI (p + 1))), (2, .int ((zco (zwkG od f rt fr n sd w) p + 1000000) + (zwkG od f rt fr n sd w (20 + p)))), (0, .ref M), (1, .int (nI w))]) hx hb dX9_week_134 hl (k := 1) rfl (z_inc _ 1) (by decide) rfl (fun ls hl => ?_)
        refine lv_goto (tgt := 112) hx hb dX9_week_137 (by decide) ?_
        have hl : lv_has ls 5 [(3, .int (nI (p + 1))), (2, .int ((zco (zwkG od f rt fr n sd w) p + 1000000) + (zwkG od f rt fr n sd w (20 + p)))), (0, .ref M), (1, .int (nI w))] := lv_sub hl [0, 1, 2, 3] rfl
        have e_13 : (zco (zwkG od f rt fr n sd w) p + 1000000) + (zwkG od f rt fr n sd w (20 + p)) = zco (zwkG od f rt fr n sd w) (p + 1) + 1000000 := by exact zco_m
        have hl : lv_has ls 5 [(3, .int (nI (p + 1))), (2, .int (zco (zwkG od f rt fr n sd w) (p + 1) + 1000000)), (0, .ref M), (1, .int (nI w))] := Eq.subst (motive := fun zz_ => lv_has ls 5 [(3, .int (nI (p + 1))), (2, .int zz_), (0, .ref M), (1, .int (nI w))]) e_13 hl
        exact ih_9 _ _ _ (by omega) ⟨hP, hD, hS, hl⟩
    · have c_8 := znle (i := w) (j := i) (by omega) (by omega) c_8
      refine lv_aload_n hx hb dX9_week_31 rfl (lv_at hl 1 rfl) ?_
      refine lv_aload_n hx hb dX9_week_32 rfl (lv_at hl 1 rfl) ?_
      refine z_get (ci := 9) (v := .long (zwkS sd i)) Z zin9 hP 0 rfl rfl 29 (by decide) zm706 rfl rfl dX9_week_33 ?_
      refine lv_ldc2 (v := 6364136223846793005) hx hb hown (hts _ zm946) dX9_week_36 ?_
      refine lv_lmul hx hb dX9_week_39 ?_
      refine lv_ldc2 (v := 1442695040888963407) hx hb hown (hts _ zm947) dX9_week_40 ?_
      refine lv_ladd hx hb dX9_week_43 ?_
      refine z_put (ci := 9) (v := .long (((zwkS sd i) * 6364136223846793005) + 1442695040888963407)) Z zin9 tyX9 tyX9_ok nmX9 hP hD hS 0 rfl rfl 29 (by decide) zm706 rfl rfl rfl rfl (Nat.le_of_ble_eq_true rfl) dX9_week_44 (fun H locs hP hD hS => ?_)
      have hP : va_P D vwCl [(M, .inr (9, [.int (nI 0), .ref mtx, .int (nI len), .int (nI pl), .int rt, .int fr, .int pr, .ref mod_, .int (nI n), .ref mne, .ref mro, .int (nI m), .int rrt, .int rfr, .int rpr, .ref mrod, .int (nI rn9), .ref mrne, .ref mrro, .int (nI rm9), .ref mrp, .ref mpg, .ref mbk, .int (nI ac), .ref mke, .ref mik, .int (nI cr), .ref mrw, .ref mrd, .long (((zwkS sd i) * 6364136223846793005) + 1442695040888963407), .ref mtr, .ref mwo, .ref mnx, .int jr])), (mod_, .inl (cI, 4, .inl od)), (mpg, .inl (cI, 36, .inl g)), (mtr, .inl (cI, 36, .inl g9))] H := hP
      have hD : va_D A [(M, .inr (9, [.int (nI 0), .ref mtx, .int (nI len), .int (nI pl), .int rt, .int fr, .int pr, .ref mod_, .int (nI n), .ref mne, .ref mro, .int (nI m), .int rrt, .int rfr, .int rpr, .ref mrod, .int (nI rn9), .ref mrne, .ref mrro, .int (nI rm9), .ref mrp, .ref mpg, .ref mbk, .int (nI ac), .ref mke, .ref mik, .int (nI cr), .ref mrw, .ref mrd, .long (((zwkS sd i) * 6364136223846793005) + 1442695040888963407), .ref mtr, .ref mwo, .ref mnx, .int jr])), (mod_, .inl (cI, 4, .inl od)), (mpg, .inl (cI, 36, .inl g)), (mtr, .inl (cI, 36, .inl g9))] := hD
      have e_14 : ((zwkS sd i) * 6364136223846793005) + 1442695040888963407 = zwkS sd (i + 1) := by rfl
      have hP : va_P D vwCl [(M, .inr (9, [.int (nI 0), .ref mtx, .int (nI len), .int (nI pl), .int rt, .int fr, .int pr, .ref mod_, .int (nI n), .ref mne, .ref mro, .int (nI m), .int rrt, .int rfr, .int rpr, .ref mrod, .int (nI rn9), .ref mrne, .ref mrro, .int (nI rm9), .ref mrp, .ref mpg, .ref mbk, .int (nI ac), .ref mke, .ref mik, .int (nI cr), .ref mrw, .ref mrd, .long (zwkS sd (i + 1)), .ref mtr, .ref mwo, .ref mnx, .int jr])), (mod_, .inl (cI, 4, .inl od)), (mpg, .inl (cI, 36, .inl g)), (mtr, .inl (cI, 36, .inl g9))] H := Eq.subst (motive := fun zz_ => va_P D vwCl [(M, .inr (9, [.int (nI 0), .ref mtx, .int (nI len), .int (nI pl), .int rt, .int fr, .int pr, .ref mod_, .int (nI n), .ref mne, .ref mro, .int (nI m), .int rrt, .int rfr, .int rpr, .ref mrod, .int (nI rn9), .ref mrne, .ref mrro, .int (nI rm9), .ref mrp, .ref mpg, .ref mbk, .int (nI ac), .ref mke, .ref mik, .int (nI cr), .ref mrw, .ref mrd, .long zz_, .ref mtr, .ref mwo, .ref mnx, .int jr])), (mod_, .inl (cI, 4, .inl od)), (mpg, .inl (cI, 36, .inl g)), (mtr, .inl (cI, 36, .inl g9))] H) e_14 hP
      have hD : va_D A [(M, .inr (9, [.int (nI 0), .ref mtx, .int (nI len), .int (nI pl), .int rt, .int fr, .int pr, .ref mod_, .int (nI n), .ref mne, .ref mro, .int (nI m), .int rrt, .int rfr, .int rpr, .ref mrod, .int (nI rn9), .ref mrne, .ref mrro, .int (nI rm9), .ref mrp, .ref mpg, .ref mbk, .int (nI ac), .ref mke, .ref mik, .int (nI cr), .ref mrw, .ref mrd, .long (zwkS sd (i + 1)), .ref mtr, .ref mwo, .ref mnx, .int jr])), (mod_, .inl (cI, 4, .inl od)), (mpg, .inl (cI, 36, .inl g)), (mtr, .inl (cI, 36, .inl g9))] := zD_of hD rfl
      obtain ⟨q, hq, hq2⟩ := zdr_nat (zwkS sd (i + 1))
      refine lv_aload_n hx hb dX9_week_47 rfl (lv_at hl 1 rfl) ?_
      refine z_get (ci := 9) (v := .long (zwkS sd (i + 1))) Z zin9 hP 0 rfl rfl 29 (by decide) zm706 rfl rfl dX9_week_48 ?_
      refine lv_bipush (v := nI 33) hx hb dX9_week_51 (by decide) ?_
      refine lv_lushr (v := ((zwkS sd (i + 1)).toUInt64 >>> ((33 : Int32).toInt64.toUInt64 &&& Int64.toUInt64 63)).toInt64) hx hb dX9_week_53 rfl ?_
      refine lv_ldc2 (v := 10) hx hb hown (hts _ zm948) dX9_week_54 ?_
      refine lv_lrem hx hb dX9_week_57 (by decide) ?_
      refine lv_l2i (v := ((((zwkS sd (i + 1)).toUInt64 >>> ((33 : Int32).toInt64.toUInt64 &&& Int64.toUInt64 63)).toInt64) - (((zwkS sd (i + 1)).toUInt64 >>> ((33 : Int32).toInt64.toUInt64 &&& Int64.toUInt64 63)).toInt64) / 10 * 10).toInt32) hx hb dX9_week_58 rfl ?_
      refine z_top (y := nI q) (hq2) ?_
      refine lv_istore_n (lv' := [(3, .int (nI q)), (2, .int (nI i)), (0, .ref M), (1, .int (nI w))]) hx hb dX9_week_59 rfl hl (by decide) rfl (fun ls hl => ?_)
      refine lv_iconst (v := nI 0) hx hb dX9_week_60 (by decide) ?_
      refine lv_istore (lv' := [(4, .int (nI 0)), (3, .int (nI q)), (2, .int (nI i)), (0, .ref M), (1, .int (nI w))]) hx hb dX9_week_61 hl (by decide) rfl (fun ls hl => ?_)
      have hl : lv_has ls 5 [(4, .int (nI 0)), (3, .int (nI q)), (2, .int (nI i)), (0, .ref M), (1, .int (nI w))] := lv_sub hl [0, 1, 2, 3, 4] rfl
      have e_16 : nI q = nI (q - zes e 0) := by exact congrArg nI (Nat.sub_zero q).symm
      have hl : lv_has ls 5 [(4, .int (nI 0)), (3, .int (nI (q - zes e 0))), (2, .int (nI i)), (0, .ref M), (1, .int (nI w))] := Eq.subst (motive := fun zz_ => lv_has ls 5 [(4, .int (nI 0)), (3, .int zz_), (2, .int (nI i)), (0, .ref M), (1, .int (nI w))]) e_16 hl
      refine z_loopm (fun (x_ : Nat) H locs ls => va_P D vwCl [(M, .inr (9, [.int (nI 0), .ref mtx, .int (nI len), .int (nI pl), .int rt, .int fr, .int pr, .ref mod_, .int (nI n), .ref mne, .ref mro, .int (nI m), .int rrt, .int rfr, .int rpr, .ref mrod, .int (nI rn9), .ref mrne, .ref mrro, .int (nI rm9), .ref mrp, .ref mpg, .ref mbk, .int (nI ac), .ref mke, .ref mik, .int (nI cr), .ref mrw, .ref mrd, .long (zwkS sd (i + 1)), .ref mtr, .ref mwo, .ref mnx, .int jr])), (mod_, .inl (cI, 4, .inl od)), (mpg, .inl (cI, 36, .inl g)), (mtr, .inl (cI, 36, .inl g9))] H ∧ va_D A [(M, .inr (9, [.int (nI 0), .ref mtx, .int (nI len), .int (nI pl), .int rt, .int fr, .int pr, .ref mod_, .int (nI n), .ref mne, .ref mro, .int (nI m), .int rrt, .int rfr, .int rpr, .ref mrod, .int (nI rn9), .ref mrne, .ref mrro, .int (nI rm9), .ref mrp, .ref mpg, .ref mbk, .int (nI ac), .ref mke, .ref mik, .int (nI cr), .ref mrw, .ref mrd, .long (zwkS sd (i + 1)), .ref mtr, .ref mwo, .ref mnx, .int jr])), (mod_, .inl (cI, 4, .inl od)), (mpg, .inl (cI, 36, .inl g)), (mtr, .inl (cI, 36, .inl g9))] ∧ va_S A sS.heap H locs ∧ lv_has ls 5 [(4, .int (nI x_)), (3, .int (nI (q - zes e x_))), (2, .int (nI i)), (0, .ref M), (1, .int (nI w))] ∧ (x_ < 4) ∧ (zes e x_ ≤ q) ∧ (∀ j, j < x_ → zes e (j + 1) ≤ q)) (fun x_ => 4 - x_) (0) ⟨hP, hD, hS, hl, (by first | omega | exact Nat.zero_le _ | exact fun j hj => absurd hj (Nat.not_lt_zero _)), (by first | omega | exact Nat.zero_le _ | exact fun j hj => absurd hj (Nat.not_lt_zero _)), (by first | omega | exact Nat.zero_le _ | exact fun j hj => absurd hj (Nat.not_lt_zero _))⟩ (fun x_ ih_15 H locs ls hI => ?_)
      obtain ⟨k, rfl⟩ : ∃ z, z = x_ := ⟨_, rfl⟩
      obtain ⟨hP, hD, hS, hl, hv63_0, hv63_1, hv63_2⟩ := hI
      dsimp only at ih_15 hv63_0 hv63_1 hv63_2
      have hv63_0 : k < 4 := hv63_0
      have hv63_1 : zes e k ≤ q := hv63_1
      have hv63_2 : ∀ j, j < k → zes e (j + 1) ≤ q := hv63_2
      have hP : va_P D vwCl [(M, .inr (9, [.int (nI 0), .ref mtx, .int (nI len), .int (nI pl), .int rt, .int fr, .int pr, .ref mod_, .int (nI n), .ref mne, .ref mro, .int (nI m), .int rrt, .int rfr, .int rpr, .ref mrod, .int (nI rn9), .ref mrne, .ref mrro, .int (nI rm9), .ref mrp, .ref mpg, .ref mbk, .int (nI ac), .ref mke, .ref mik, .int (nI cr), .ref mrw, .ref mrd, .long (zwkS sd (i + 1)), .ref mtr, .ref mwo, .ref mnx, .int jr])), (mod_, .inl (cI, 4, .inl od)), (mpg, .inl (cI, 36, .inl g)), (mtr, .inl (cI, 36, .inl g9))] H := hP
      have hD : va_D A [(M, .inr (9, [.int (nI 0), .ref mtx, .int (nI len), .int (nI pl), .int rt, .int fr, .int pr, .ref mod_, .int (nI n), .ref mne, .ref mro, .int (nI m), .int rrt, .int rfr, .int rpr, .ref mrod, .int (nI rn9), .ref mrne, .ref mrro, .int (nI rm9), .ref mrp, .ref mpg, .ref mbk, .int (nI ac), .ref mke, .ref mik, .int (nI cr), .ref mrw, .ref mrd, .long (zwkS sd (i + 1)), .ref mtr, .ref mwo, .ref mnx, .int jr])), (mod_, .inl (cI, 4, .inl od)), (mpg, .inl (cI, 36, .inl g)), (mtr, .inl (cI, 36, .inl g9))] := hD
      have hl : lv_has ls 5 [(4, .int (nI k)), (3, .int (nI (q - zes e k))), (2, .int (nI i)), (0, .ref M), (1, .int (nI w))] := hl
      refine lv_iload_n hx hb dX9_week_63 rfl (lv_at hl 1 rfl) ?_
      refine lv_aload_n hx hb dX9_week_64 rfl (lv_at hl 3 rfl) ?_
      refine z_get (ci := 9) (v := .ref mod_) Z zin9 hP 0 rfl rfl 7 (by decide) zm684 rfl rfl dX9_week_65 ?_
      refine lv_iload hx hb dX9_week_68 (lv_at hl 0 rfl) ?_
      refine z_iald (n := 4) (f := od) (j := k) Z hP 1 rfl (by omega) (by decide) dX9_week_70 ?_
      refine z_top (y := nI (e k)) (hoe k hv63_0) ?_
      have hek := zek hos hv63_0
      have hz1 : zes e (k + 1) = zes e k + e k := rfl
      refine lv_icmp_lt (tgt := 90) hx hb dX9_week_71 (by decide) (fun c_17 => ?_) (fun c_17 => ?_)
      · have c_17 := zlt (i := q - zes e k) (j := e k) (by omega) (by omega) c_17
        have hkw := zdw_of hoe hos hq hv63_0 hv63_1 (by omega) hv63_2
        refine lv_aload_n hx hb dX9_week_90 rfl (lv_at hl 3 rfl) ?_
        refine lv_aload_n hx hb dX9_week_91 rfl (lv_at hl 3 rfl) ?_
        refine z_get (ci := 9) (v := .ref mtr) Z zin9 hP 0 rfl rfl 30 (by decide) zm707 rfl rfl dX9_week_92 ?_
        refine lv_iload hx hb dX9_week_95 (lv_at hl 0 rfl) ?_
        refine z_callVi (As := [.ref mtr, .int (nI k)]) (rest := []) (ci := 9) (k0 := 0) Z hP hD hS hl.1 (zc_X9_goEvent l D cI cZ M (nI 0) mtx len pl rt fr pr mod_ n mne mro m rrt rfr rpr mrod rn9 mrne mrro rm9 mrp mpg mbk ac mke mik cr mrw mrd (zwkS sd (i + 1)) mtr mwo mnx jr mtr g9 (zwkG od f rt fr n sd i) k (by first | omega | exact hv26_1 | exact zwk_v hpv hn i) (by first | omega | exact hv26_1 | exact zwk_v hpv hn i) (by first | omega | exact hv26_1 | exact zwk_v hpv hn i) (by first | omega | exact hv26_1 | exact zwk_v hpv hn i)) zm820 zm821 zm21 zm39 zm822 ⟨rfl, zd_X9_goEvent⟩ ⟨Nat.le_of_ble_eq_true rfl, Nat.le_of_ble_eq_true rfl⟩ ⟨Nat.zero_le _, Nat.zero_le _⟩ [0, 3] rfl (by decide) rfl rfl rfl (fun _ => rfl) rfl (Nat.le_of_ble_eq_true rfl) rfl dX9_week_97 (fun r_18 u H locs h_19 hP hD hS => ?_)
        obtain ⟨g2_20, rfl⟩ : ∃ z, z = u := ⟨_, rfl⟩
        have hP : va_P D vwCl [(M, .inr (9, [.int (nI 0), .ref mtx, .int (nI len), .int (nI pl), .int rt, .int fr, .int pr, .ref mod_, .int (nI n), .ref mne, .ref mro, .int (nI m), .int rrt, .int rfr, .int rpr, .ref mrod, .int (nI rn9), .ref mrne, .ref mrro, .int (nI rm9), .ref mrp, .ref mpg, .ref mbk, .int (nI ac), .ref mke, .ref mik, .int (nI cr), .ref mrw, .ref mrd, .long (zwkS sd (i + 1)), .ref mtr, .ref mwo, .ref mnx, .int jr])), (mod_, .inl (cI, 4, .inl od)), (mpg, .inl (cI, 36, .inl g)), (mtr, .inl (cI, 36, .inl g2_20))] H := hP
        have hD : va_D A [(M, .inr (9, [.int (nI 0), .ref mtx, .int (nI len), .int (nI pl), .int rt, .int fr, .int pr, .ref mod_, .int (nI n), .ref mne, .ref mro, .int (nI m), .int rrt, .int rfr, .int rpr, .ref mrod, .int (nI rn9), .ref mrne, .ref mrro, .int (nI rm9), .ref mrp, .ref mpg, .ref mbk, .int (nI ac), .ref mke, .ref mik, .int (nI cr), .ref mrw, .ref mrd, .long (zwkS sd (i + 1)), .ref mtr, .ref mwo, .ref mnx, .int jr])), (mod_, .inl (cI, 4, .inl od)), (mpg, .inl (cI, 36, .inl g)), (mtr, .inl (cI, 36, .inl g2_20))] := hD
        obtain ⟨h_19_0, h_19_1⟩ := h_19
        have h_19_0 : r_18 = zcs (zwkG od f rt fr n sd i) rt fr k n := h_19_0
        subst h_19_0
        have h_19_1 : zpr n (zcome (zwkG od f rt fr n sd i) rt fr n k) g2_20 := h_19_1
        refine lv_pop hx hb dX9_week_100 rfl ?_
        refine lv_iinc (v := nI (i + 1)) (lv' := [(2, .int (nI (i + 1))), (4, .int (nI k)), (3, .int (nI (q - zes e k))), (0, .ref M), (1, .int (nI w))]) hx hb dX9_week_101 hl (k := 2) rfl (z_inc _ 1) (by decide) rfl (fun ls hl => ?_)
        refine lv_goto (tgt := 26) hx hb dX9_week_104 (by decide) ?_
        have hl : lv_has ls 5 [(2, .int (nI (i + 1))), (0, .ref M), (1, .int (nI w))] := lv_sub hl [0, 3, 4] rfl
        exact ih_6 (i + 1, g2_20) _ _ _ (by omega) ⟨hP, hD, hS, hl, (by first | omega | exact zwkG_s (by assumption) hkw hq2), (by first | omega | exact zwkG_s (by assumption) hkw hq2)⟩
      · have c_17 := znlt (i := q - zes e k) (j := e k) (by omega) (by omega) c_17
        have hk5 : zes e (k + 1) ≤ q := by omega
        refine lv_iload_n hx hb dX9_week_74 rfl (lv_at hl 1 rfl) ?_
        refine lv_aload_n hx hb dX9_week_75 rfl (lv_at hl 3 rfl) ?_
        refine z_get (ci := 9) (v := .ref mod_) Z zin9 hP 0 rfl rfl 7 (by decide) zm684 rfl rfl dX9_week_76 ?_
        refine lv_iload hx hb dX9_week_79 (lv_at hl 0 rfl) ?_
        refine z_iald (n := 4) (f := od) (j := k) Z hP 1 rfl (by omega) (by decide) dX9_week_81 ?_
        refine z_top (y := nI (e k)) (hoe k hv63_0) ?_
        refine lv_isub hx hb dX9_week_82 ?_
        refine z_top (y := nI ((q - zes e k) - (e k))) (z_sub' (by omega)) ?_
        refine lv_istore_n (lv' := [(3, .int (nI ((q - zes e k) - (e k)))), (4, .int (nI k)), (2, .int (nI i)), (0, .ref M), (1, .int (nI w))]) hx hb dX9_week_83 rfl hl (by decide) rfl (fun ls hl => ?_)
        refine lv_iinc (v := nI (k + 1)) (lv' := [(4, .int (nI (k + 1))), (3, .int (nI ((q - zes e k) - (e k)))), (2, .int (nI i)), (0, .ref M), (1, .int (nI w))]) hx hb dX9_week_84 hl (k := 1) rfl (z_inc _ 1) (by decide) rfl (fun ls hl => ?_)
        refine lv_goto (tgt := 63) hx hb dX9_week_87 (by decide) ?_
        have hl : lv_has ls 5 [(4, .int (nI (k + 1))), (3, .int (nI ((q - zes e k) - (e k)))), (2, .int (nI i)), (0, .ref M), (1, .int (nI w))] := lv_sub hl [0, 1, 2, 3, 4] rfl
        have e_21 : nI ((q - zes e k) - (e k)) = nI (q - zes e (k + 1)) := by exact congrArg nI (by omega)
        have hl : lv_has ls 5 [(4, .int (nI (k + 1))), (3, .int (nI (q - zes e (k + 1)))), (2, .int (nI i)), (0, .ref M), (1, .int (nI w))] := Eq.subst (motive := fun zz_ => lv_has ls 5 [(4, .int (nI (k + 1))), (3, .int zz_), (2, .int (nI i)), (0, .ref M), (1, .int (nI w))]) e_21 hl
        exact ih_15 (k + 1) _ _ _ (by omega) ⟨hP, hD, hS, hl, (by first | omega | exact zes_k hos hq hv63_0 hk5 | exact zes_a hv63_2 hk5), (by first | omega | exact zes_k hos hq hv63_0 hk5 | exact zes_a hv63_2 hk5), (by first | omega | exact zes_k hos hq hv63_0 hk5 | exact zes_a hv63_2 hk5)⟩
  · have c_3 := zb0 c_3
    have hrgn := fun q => c_3 ((zinr (x := x1) 1 30 rfl rfl).mpr q)
    refine lv_bipush (v := -2) hx hb dX9_week_17 (by decide) ?_
    have e_22 : sd = zRa 1 30 x1 (fun w => zwkS sd w) sd := by first | (rw [zRa_n hrgn]; done) | (rw [zRa_y hw0 hw (by decide)]; done)
    have hP : va_P D vwCl [(M, .inr (9, [.int (nI 0), .ref mtx, .int (nI len), .int (nI pl), .int rt, .int fr, .int pr, .ref mod_, .int (nI n), .ref mne, .ref mro, .int (nI m), .int rrt, .int rfr, .int rpr, .ref mrod, .int (nI rn9), .ref mrne, .ref mrro, .int (nI rm9), .ref mrp, .ref mpg, .ref mbk, .int (nI ac), .ref mke, .ref mik, .int (nI cr), .ref mrw, .ref mrd, .long (zRa 1 30 x1 (fun w => zwkS sd w) sd), .ref mtr, .ref mwo, .ref mnx, .int jr])), (mod_, .inl (cI, 4, .inl od)), (mpg, .inl (cI, 36, .inl g)), (mtr, .inl (cI, 36, .inl t))] H := Eq.subst (motive := fun zz_ => va_P D vwCl [(M, .inr (9, [.int (nI 0), .ref mtx, .int (nI len), .int (nI pl), .int rt, .int fr, .int pr, .ref mod_, .int (nI n), .ref mne, .ref mro, .int (nI m), .int rrt, .int rfr, .int rpr, .ref mrod, .int (nI rn9), .ref mrne, .ref mrro, .int (nI rm9), .ref mrp, .ref mpg, .ref mbk, .int (nI ac), .ref mke, .ref mik, .int (nI cr), .ref mrw, .ref mrd, .long zz_, .ref mtr, .ref mwo, .ref mnx, .int jr])), (mod_, .inl (cI, 4, .inl od)), (mpg, .inl (cI, 36, .inl g)), (mtr, .inl (cI, 36, .inl t))] H) e_22 hP
    have hD : va_D A [(M, .inr (9, [.int (nI 0), .ref mtx, .int (nI len), .int (nI pl), .int rt, .int fr, .int pr, .ref mod_, .int (nI n), .ref mne, .ref mro, .int (nI m), .int rrt, .int rfr, .int rpr, .ref mrod, .int (nI rn9), .ref mrne, .ref mrro, .int (nI rm9), .ref mrp, .ref mpg, .ref mbk, .int (nI ac), .ref mke, .ref mik, .int (nI cr), .ref mrw, .ref mrd, .long (zRa 1 30 x1 (fun w => zwkS sd w) sd), .ref mtr, .ref mwo, .ref mnx, .int jr])), (mod_, .inl (cI, 4, .inl od)), (mpg, .inl (cI, 36, .inl g)), (mtr, .inl (cI, 36, .inl t))] := zD_of hD rfl
    exact z_iret Z (t) (by first | (rw [zRa_n hrgn]; done) | (rw [zRa_y hw0 hw (by decide)]; done)) hP hS dX9_week_19
