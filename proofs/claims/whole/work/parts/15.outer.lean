theorem dX7_length_0 : decode cX7_length 0 = .ok (.aload_n 0, 1) := by decide +kernel
theorem dX7_length_1 : decode cX7_length 1 = .ok (.getfield 18, 3) := by decide +kernel
theorem dX7_length_4 : decode cX7_length 4 = .ok (.ireturn, 1) := by decide +kernel
theorem zd_X7_length : yX7_length.cls ≠ "java/lang/invoke/MethodHandle" ∧ yX7_length.cls ≠ "java/lang/invoke/VarHandle" ∧ (parseMethodDescriptor yX7_length.desc).map (fun d => d.parameters.length) = some 0 := by decide +kernel
set_option maxHeartbeats 4000000 in
set_option maxRecDepth 100000 in
theorem zc_X7_length (l : Launch) (D : va_G) (cI cZ : ClassId) (tx : Nat) (tb : Nat) (tt : Nat) (len : Nat) (at_ : Nat) (ft : Int32) : zI l yX7_length cX7_length 1 .int 0 0 D cI cZ [.ref tx] [(tx, .inr (7, [.ref tb, .ref tt, .int (nI len), .int (nI at_), .int ft]))] (fun (r : Int32) (u : Unit) => r = nI len) (fun (u : Unit) => [(tx, .inr (7, [.ref tb, .ref tt, .int (nI len), .int (nI at_), .int ft]))]) := by
  refine zI_of (by decide) (Nat.le_of_ble_eq_true rfl) ?_
  intro pP eE sS mM aA bB mT cC A ls Z hP hD hS hl
  have hx := Z.1
  have hb := Z.2.1
  have hown := Z.2.2.2.2.2.1
  have hts := Z.2.2.2.2.1
  have Z : zAt pP sS mM aA mT cC D cI cZ A "SurpriseTax$Text" cX7_length 1 (some .int) := Z
  have hl : lv_has ls 1 [(0, .ref tx)] := hl
  obtain ⟨H, hH⟩ : ∃ H, H = sS.heap := ⟨_, rfl⟩
  have hP : va_P D vwCl [(tx, .inr (7, [.ref tb, .ref tt, .int (nI len), .int (nI at_), .int ft]))] H := by rw [hH]; exact hP
  have hS : va_S A sS.heap H [] := by rw [hH]; exact hS
  rw [← hH]
  clear hH
  obtain ⟨locs, hlo⟩ : ∃ q : List Loc, q = [] := ⟨_, rfl⟩
  rw [← hlo] at hS ⊢
  clear hlo
  refine lv_aload_n hx hb dX7_length_0 rfl (lv_at hl 0 rfl) ?_
  refine z_get (ci := 7) (v := .int (nI len)) Z zin7 hP 0 rfl rfl 2 (by decide) zm58 rfl rfl dX7_length_1 ?_
  exact z_iret Z () rfl hP hS dX7_length_4

theorem dX7_add_0 : decode cX7_add 0 = .ok (.aload_n 0, 1) := by decide +kernel
theorem dX7_add_1 : decode cX7_add 1 = .ok (.getfield 18, 3) := by decide +kernel
theorem dX7_add_4 : decode cX7_add 4 = .ok (.bipush 64, 2) := by decide +kernel
theorem dX7_add_6 : decode cX7_add 6 = .ok (.if_icmp .lt 4, 3) := by decide +kernel
theorem dX7_add_10 : decode cX7_add 10 = .ok (.aload_n 0, 1) := by decide +kernel
theorem dX7_add_11 : decode cX7_add 11 = .ok (.getfield 9, 3) := by decide +kernel
theorem dX7_add_14 : decode cX7_add 14 = .ok (.aload_n 0, 1) := by decide +kernel
theorem dX7_add_15 : decode cX7_add 15 = .ok (.getfield 18, 3) := by decide +kernel
theorem dX7_add_18 : decode cX7_add 18 = .ok (.iload_n 1, 1) := by decide +kernel
theorem dX7_add_19 : decode cX7_add 19 = .ok (.iastore, 1) := by decide +kernel
theorem dX7_add_20 : decode cX7_add 20 = .ok (.aload_n 0, 1) := by decide +kernel
theorem dX7_add_21 : decode cX7_add 21 = .ok (.dup, 1) := by decide +kernel
theorem dX7_add_22 : decode cX7_add 22 = .ok (.getfield 18, 3) := by decide +kernel
theorem dX7_add_25 : decode cX7_add 25 = .ok (.iconst 1, 1) := by decide +kernel
theorem dX7_add_26 : decode cX7_add 26 = .ok (.iadd, 1) := by decide +kernel
theorem dX7_add_27 : decode cX7_add 27 = .ok (.putfield 18, 3) := by decide +kernel
theorem dX7_add_30 : decode cX7_add 30 = .ok (.return_, 1) := by decide +kernel
theorem zd_X7_add : yX7_add.cls ≠ "java/lang/invoke/MethodHandle" ∧ yX7_add.cls ≠ "java/lang/invoke/VarHandle" ∧ (parseMethodDescriptor yX7_add.desc).map (fun d => d.parameters.length) = some 1 := by decide +kernel
set_option maxHeartbeats 4000000 in
set_option maxRecDepth 100000 in
theorem zc_X7_add (l : Launch) (D : va_G) (cI cZ : ClassId) (tx : Nat) (tb : Nat) (tt : Nat) (len : Nat) (at_ : Nat) (ft : Int32) (bf : Nat → Int32) (x1 : Int32) (hlen : len < 64) : zV l yX7_add cX7_add 2 0 0 D cI cZ [.ref tx, .int x1] [(tx, .inr (7, [.ref tb, .ref tt, .int (nI len), .int (nI at_), .int ft])), (tb, .inl (cI, 64, .inl bf))] (fun (u : Unit) => True) (fun (u : Unit) => [(tx, .inr (7, [.ref tb, .ref tt, .int (nI (len + 1)), .int (nI at_), .int ft])), (tb, .inl (cI, 64, .inl (upd bf len x1)))]) := by
  refine zV_of (by decide) (Nat.le_of_ble_eq_true rfl) ?_
  intro pP eE sS mM aA bB mT cC A ls Z hP hD hS hl
  have hx := Z.1
  have hb := Z.2.1
  have hown := Z.2.2.2.2.2.1
  have hts := Z.2.2.2.2.1
  have Z : zAt pP sS mM aA mT cC D cI cZ A "SurpriseTax$Text" cX7_add 2 none := Z
  have hl : lv_has ls 2 [(0, .ref tx), (1, .int x1)] := hl
  obtain ⟨H, hH⟩ : ∃ H, H = sS.heap := ⟨_, rfl⟩
  have hP : va_P D vwCl [(tx, .inr (7, [.ref tb, .ref tt, .int (nI len), .int (nI at_), .int ft])), (tb, .inl (cI, 64, .inl bf))] H := by rw [hH]; exact hP
  have hS : va_S A sS.heap H [] := by rw [hH]; exact hS
  rw [← hH]
  clear hH
  obtain ⟨locs, hlo⟩ : ∃ q : List Loc, q = [] := ⟨_, rfl⟩
  rw [← hlo] at hS ⊢
  clear hlo
  refine lv_aload_n hx hb dX7_add_0 rfl (lv_at hl 0 rfl) ?_
  refine z_get (ci := 7) (v := .int (nI len)) Z zin7 hP 0 rfl rfl 2 (by decide) zm58 rfl rfl dX7_add_1 ?_
  refine lv_bipush (v := nI 64) hx hb dX7_add_4 (by decide) ?_
  refine lv_icmp_lt (tgt := 10) hx hb dX7_add_6 (by decide) (fun c_1 => ?_) (fun c_1 => ?_)
  · have c_1 := zlt (i := len) (j := 64) (by omega) (by decide) c_1
    refine lv_aload_n hx hb dX7_add_10 rfl (lv_at hl 0 rfl) ?_
    refine z_get (ci := 7) (v := .ref tb) Z zin7 hP 0 rfl rfl 0 (by decide) zm56 rfl rfl dX7_add_11 ?_
    refine lv_aload_n hx hb dX7_add_14 rfl (lv_at hl 0 rfl) ?_
    refine z_get (ci := 7) (v := .int (nI len)) Z zin7 hP 0 rfl rfl 2 (by decide) zm58 rfl rfl dX7_add_15 ?_
    refine lv_iload_n hx hb dX7_add_18 rfl (lv_at hl 1 rfl) ?_
    refine z_iast (n := 64) (f := bf) (j := len) (x := x1) Z hP hD hS 1 rfl (by omega) (by decide) dX7_add_19 (fun H locs hP hD hS => ?_)
    have hP : va_P D vwCl [(tx, .inr (7, [.ref tb, .ref tt, .int (nI len), .int (nI at_), .int ft])), (tb, .inl (cI, 64, .inl (upd bf len x1)))] H := hP
    have hD : va_D A [(tx, .inr (7, [.ref tb, .ref tt, .int (nI len), .int (nI at_), .int ft])), (tb, .inl (cI, 64, .inl (upd bf len x1)))] := hD
    refine lv_aload_n hx hb dX7_add_20 rfl (lv_at hl 0 rfl) ?_
    refine lv_dup hx hb dX7_add_21 rfl ?_
    refine z_get (ci := 7) (v := .int (nI len)) Z zin7 hP 0 rfl rfl 2 (by decide) zm58 rfl rfl dX7_add_22 ?_
    refine lv_iconst (v := nI 1) hx hb dX7_add_25 (by decide) ?_
    refine lv_iadd hx hb dX7_add_26 ?_
    refine z_top (y := nI (len + 1)) (z_add _ _) ?_
    refine z_put (ci := 7) (v := .int (nI (len + 1))) Z zin7 tyX7 tyX7_ok nmX7 hP hD hS 0 rfl rfl 2 (by decide) zm58 rfl rfl rfl rfl (Nat.le_of_ble_eq_true rfl) dX7_add_27 (fun H locs hP hD hS => ?_)
    have hP : va_P D vwCl [(tx, .inr (7, [.ref tb, .ref tt, .int (nI (len + 1)), .int (nI at_), .int ft])), (tb, .inl (cI, 64, .inl (upd bf len x1)))] H := hP
    have hD : va_D A [(tx, .inr (7, [.ref tb, .ref tt, .int (nI (len + 1)), .int (nI at_), .int ft])), (tb, .inl (cI, 64, .inl (upd bf len x1)))] := hD
    exact z_vret Z () trivial hP hS dX7_add_30
  · have c_1 := znlt (i := len) (j := 64) (by omega) (by decide) c_1
    exact absurd c_1 (by omega)

theorem dX7_clear_0 : decode cX7_clear 0 = .ok (.aload_n 0, 1) := by decide +kernel
theorem dX7_clear_1 : decode cX7_clear 1 = .ok (.iconst 0, 1) := by decide +kernel
theorem dX7_clear_2 : decode cX7_clear 2 = .ok (.putfield 18, 3) := by decide +kernel
theorem dX7_clear_5 : decode cX7_clear 5 = .ok (.return_, 1) := by decide +kernel
theorem zd_X7_clear : yX7_clear.cls ≠ "java/lang/invoke/MethodHandle" ∧ yX7_clear.cls ≠ "java/lang/invoke/VarHandle" ∧ (parseMethodDescriptor yX7_clear.desc).map (fun d => d.parameters.length) = some 0 := by decide +kernel
set_option maxHeartbeats 4000000 in
set_option maxRecDepth 100000 in
theorem zc_X7_clear (l : Launch) (D : va_G) (cI cZ : ClassId) (tx : Nat) (tb : Nat) (tt : Nat) (len : Nat) (at_ : Nat) (ft : Int32) : zV l yX7_clear cX7_clear 1 0 0 D cI cZ [.ref tx] [(tx, .inr (7, [.ref tb, .ref tt, .int (nI len), .int (nI at_), .int ft]))] (fun (u : Unit) => True) (fun (u : Unit) => [(tx, .inr (7, [.ref tb, .ref tt, .int (nI 0), .int (nI at_), .int ft]))]) := by
  refine zV_of (by decide) (Nat.le_of_ble_eq_true rfl) ?_
  intro pP eE sS mM aA bB mT cC A ls Z hP hD hS hl
  have hx := Z.1
  have hb := Z.2.1
  have hown := Z.2.2.2.2.2.1
  have hts := Z.2.2.2.2.1
  have Z : zAt pP sS mM aA mT cC D cI cZ A "SurpriseTax$Text" cX7_clear 1 none := Z
  have hl : lv_has ls 1 [(0, .ref tx)] := hl
  obtain ⟨H, hH⟩ : ∃ H, H = sS.heap := ⟨_, rfl⟩
  have hP : va_P D vwCl [(tx, .inr (7, [.ref tb, .ref tt, .int (nI len), .int (nI at_), .int ft]))] H := by rw [hH]; exact hP
  have hS : va_S A sS.heap H [] := by rw [hH]; exact hS
  rw [← hH]
  clear hH
  obtain ⟨locs, hlo⟩ : ∃ q : List Loc, q = [] := ⟨_, rfl⟩
  rw [← hlo] at hS ⊢
  clear hlo
  refine lv_aload_n hx hb dX7_clear_0 rfl (lv_at hl 0 rfl) ?_
  refine lv_iconst (v := nI 0) hx hb dX7_clear_1 (by decide) ?_
  refine z_put (ci := 7) (v := .int (nI 0)) Z zin7 tyX7 tyX7_ok nmX7 hP hD hS 0 rfl rfl 2 (by decide) zm58 rfl rfl rfl rfl (Nat.le_of_ble_eq_true rfl) dX7_clear_2 (fun H locs hP hD hS => ?_)
  have hP : va_P D vwCl [(tx, .inr (7, [.ref tb, .ref tt, .int (nI 0), .int (nI at_), .int ft]))] H := hP
  have hD : va_D A [(tx, .inr (7, [.ref tb, .ref tt, .int (nI 0), .int (nI at_), .int ft]))] := hD
  exact z_vret Z () trivial hP hS dX7_clear_5

theorem dX8_isRow_0 : decode cX8_isRow 0 = .ok (.iload_n 0, 1) := by decide +kernel
theorem dX8_isRow_1 : decode cX8_isRow 1 = .ok (.ifCond .lt 13, 3) := by decide +kernel
theorem dX8_isRow_4 : decode cX8_isRow 4 = .ok (.iload_n 0, 1) := by decide +kernel
theorem dX8_isRow_5 : decode cX8_isRow 5 = .ok (.bipush 10, 2) := by decide +kernel
theorem dX8_isRow_7 : decode cX8_isRow 7 = .ok (.iload_n 1, 1) := by decide +kernel
theorem dX8_isRow_8 : decode cX8_isRow 8 = .ok (.invokestatic 201, 3) := by decide +kernel
theorem dX8_isRow_11 : decode cX8_isRow 11 = .ok (.if_icmp .lt 5, 3) := by decide +kernel
theorem dX8_isRow_14 : decode cX8_isRow 14 = .ok (.iconst 0, 1) := by decide +kernel
theorem dX8_isRow_15 : decode cX8_isRow 15 = .ok (.ireturn, 1) := by decide +kernel
theorem dX8_isRow_16 : decode cX8_isRow 16 = .ok (.iconst 0, 1) := by decide +kernel
theorem dX8_isRow_17 : decode cX8_isRow 17 = .ok (.istore_n 2, 1) := by decide +kernel
theorem dX8_isRow_18 : decode cX8_isRow 18 = .ok (.iload_n 2, 1) := by decide +kernel
theorem dX8_isRow_19 : decode cX8_isRow 19 = .ok (.iload_n 1, 1) := by decide +kernel
theorem dX8_isRow_20 : decode cX8_isRow 20 = .ok (.if_icmp .ge 23, 3) := by decide +kernel
theorem dX8_isRow_23 : decode cX8_isRow 23 = .ok (.iload_n 0, 1) := by decide +kernel
theorem dX8_isRow_24 : decode cX8_isRow 24 = .ok (.iload_n 1, 1) := by decide +kernel
theorem dX8_isRow_25 : decode cX8_isRow 25 = .ok (.iload_n 2, 1) := by decide +kernel
theorem dX8_isRow_26 : decode cX8_isRow 26 = .ok (.invokestatic 282, 3) := by decide +kernel
theorem dX8_isRow_29 : decode cX8_isRow 29 = .ok (.invokestatic 130, 3) := by decide +kernel
theorem dX8_isRow_32 : decode cX8_isRow 32 = .ok (.ifCond .ne 5, 3) := by decide +kernel
theorem dX8_isRow_35 : decode cX8_isRow 35 = .ok (.iconst 0, 1) := by decide +kernel
theorem dX8_isRow_36 : decode cX8_isRow 36 = .ok (.ireturn, 1) := by decide +kernel
theorem dX8_isRow_37 : decode cX8_isRow 37 = .ok (.iinc 2 1, 3) := by decide +kernel
theorem dX8_isRow_40 : decode cX8_isRow 40 = .ok (.goto (-22), 3) := by decide +kernel
theorem dX8_isRow_43 : decode cX8_isRow 43 = .ok (.iconst 1, 1) := by decide +kernel
theorem dX8_isRow_44 : decode cX8_isRow 44 = .ok (.ireturn, 1) := by decide +kernel
theorem zd_X8_isRow : yX8_isRow.cls ≠ "java/lang/invoke/MethodHandle" ∧ yX8_isRow.cls ≠ "java/lang/invoke/VarHandle" ∧ (parseMethodDescriptor yX8_isRow.desc).map (fun d => d.parameters.length) = some 2 := by decide +kernel
set_option maxHeartbeats 4000000 in
set_option maxRecDepth 100000 in
theorem zc_X8_isRow (l : Launch) (D : va_G) (cI cZ : ClassId) (x1 : Int32) (d : Nat) (hd : d ≤ 8) : zI l yX8_isRow cX8_isRow 3 .boolean 1 24 D cI cZ [.int x1, .int (nI d)] [] (fun (r : Int32) (u : Unit) => r = if zirow d x1 then 1 else 0) (fun (u : Unit) => []) := by
  refine zI_of (by decide) (Nat.le_of_ble_eq_true rfl) ?_
  intro pP eE sS mM aA bB mT cC A ls Z hP hD hS hl
  have hx := Z.1
  have hb := Z.2.1
  have hown := Z.2.2.2.2.2.1
  have hts := Z.2.2.2.2.1
  have Z : zAt pP sS mM aA mT cC D cI cZ A "SurpriseTax" cX8_isRow 3 (some .boolean) := Z
  have hl : lv_has ls 3 [(0, .int x1), (1, .int (nI d))] := hl
  obtain ⟨H, hH⟩ : ∃ H, H = sS.heap := ⟨_, rfl⟩
  have hP : va_P D vwCl [] H := by rw [hH]; exact hP
  have hS : va_S A sS.heap H [] := by rw [hH]; exact hS
  rw [← hH]
  clear hH
  obtain ⟨locs, hlo⟩ : ∃ q : List Loc, q = [] := ⟨_, rfl⟩
  rw [← hlo] at hS ⊢
  clear hlo
  refine lv_iload_n hx hb dX8_isRow_0 rfl (lv_at hl 0 rfl) ?_
  refine lv_if_lt (tgt := 14) hx hb dX8_isRow_1 (by decide) (fun c_1 => ?_) (fun c_1 => ?_)
  · have c_1 : x1 < 0 := c_1
    refine lv_iconst (v := nI 0) hx hb dX8_isRow_14 (by decide) ?_
    exact z_zret Z () (by decide) (by first | (rw [if_pos ((zirow_nat hw hd).mpr ⟨by omega, by assumption⟩)]; rfl) | (rw [if_neg (fun q => q.1 (by assumption))]; rfl) | (rw [if_neg (fun q => absurd ((zirow_nat hw hd).mp q).1 (by omega))]; rfl) | (rw [if_neg (fun q => by have q2 := ((zirow_nat hw hd).mp q).2; rw [hz] at q2; cases q2)]; rfl)) hP hS dX8_isRow_15
  · have c_1 : ¬ (x1 < 0) := c_1
    obtain ⟨w, hw, rfl⟩ := nI_of c_1
    have h10 : 10 ^ d ≤ 100000000 := (Nat.pow_le_pow_right (show 0 < 10 by decide) hd : 10 ^ d ≤ 10 ^ 8)
    refine lv_iload_n hx hb dX8_isRow_4 rfl (lv_at hl 0 rfl) ?_
    refine lv_bipush (v := nI 10) hx hb dX8_isRow_5 (by decide) ?_
    refine lv_iload_n hx hb dX8_isRow_7 rfl (lv_at hl 1 rfl) ?_
    refine z_callSi (As := [.int (nI 10), .int (nI d)]) (rest := [.int (nI w)]) Z hP hD hS hl.1 (zc_X8_power l D cI cZ 10 d (by omega)) zm476 zm468 zm30 zm469 zd_X8_power ⟨Nat.le_of_ble_eq_true rfl, Nat.le_of_ble_eq_true rfl⟩ ⟨Nat.zero_le _, Nat.zero_le _⟩ [] rfl (by decide) (fun _ => rfl) rfl (Nat.le_of_ble_eq_true rfl) rfl dX8_isRow_8 (fun r_2 u H locs h_3 hP hD hS => ?_)
    have hP : va_P D vwCl [] H := hP
    have hD : va_D A [] := hD
    have h_3 : r_2 = nI (10 ^ d) := h_3
    subst h_3
    refine lv_icmp_lt (tgt := 16) hx hb dX8_isRow_11 (by decide) (fun c_4 => ?_) (fun c_4 => ?_)
    · have c_4 := zlt (i := w) (j := 10 ^ d) (by omega) (by omega) c_4
      refine lv_iconst (v := nI 0) hx hb dX8_isRow_16 (by decide) ?_
      refine lv_istore_n (lv' := [(2, .int (nI 0)), (0, .int (nI w)), (1, .int (nI d))]) hx hb dX8_isRow_17 rfl hl (by decide) rfl (fun ls hl => ?_)
      have hl : lv_has ls 3 [(2, .int (nI 0)), (0, .int (nI w)), (1, .int (nI d))] := lv_sub hl [0, 1, 2] rfl
      refine z_loop (fun i H locs ls => va_P D vwCl [] H ∧ va_D A [] ∧ va_S A sS.heap H locs ∧ lv_has ls 3 [(2, .int (nI i)), (0, .int (nI w)), (1, .int (nI d))] ∧ (zrw w d i = true)) (d) (lo := 0) (by omega) ⟨hP, hD, hS, hl, (by rfl)⟩ (fun i hi_i ih_5 H locs ls hI => ?_)
      obtain ⟨hP, hD, hS, hl, hv18_0⟩ := hI
      have hv18_0 : zrw w d i = true := hv18_0
      have hP : va_P D vwCl [] H := hP
      have hD : va_D A [] := hD
      have hl : lv_has ls 3 [(2, .int (nI i)), (0, .int (nI w)), (1, .int (nI d))] := hl
      refine lv_iload_n hx hb dX8_isRow_18 rfl (lv_at hl 0 rfl) ?_
      refine lv_iload_n hx hb dX8_isRow_19 rfl (lv_at hl 2 rfl) ?_
      refine lv_icmp_ge (tgt := 43) hx hb dX8_isRow_20 (by decide) (fun c_6 => ?_) (fun c_6 => ?_)
      · have c_6 := zle (i := d) (j := i) (by omega) (by omega) c_6
        have hE_ : d = i := by omega
        subst hE_
        refine lv_iconst (v := nI 1) hx hb dX8_isRow_43 (by decide) ?_
        exact z_zret Z () (by decide) (by first | (rw [if_pos ((zirow_nat hw hd).mpr ⟨by omega, by assumption⟩)]; rfl) | (rw [if_neg (fun q => q.1 (by assumption))]; rfl) | (rw [if_neg (fun q => absurd ((zirow_nat hw hd).mp q).1 (by omega))]; rfl) | (rw [if_neg (fun q => by have q2 := ((zirow_nat hw hd).mp q).2; rw [hz] at q2; cases q2)]; rfl)) hP hS dX8_isRow_44
      · have c_6 := znle (i := d) (j := i) (by omega) (by omega) c_6
        refine lv_iload_n hx hb dX8_isRow_23 rfl (lv_at hl 1 rfl) ?_
        refine lv_iload_n hx hb dX8_isRow_24 rfl (lv_at hl 2 rfl) ?_
        refine lv_iload_n hx hb dX8_isRow_25 rfl (lv_at hl 0 rfl) ?_
        refine z_callSi (As := [.int (nI w), .int (nI d), .int (nI i)]) (rest := []) Z hP hD hS hl.1 (zc_X8_figureAt l D cI cZ w d i (by omega) (by omega) (by omega)) zm575 zm576 zm30 zm577 zd_X8_figureAt ⟨Nat.le_of_ble_eq_true rfl, Nat.le_of_ble_eq_true rfl⟩ ⟨Nat.zero_le _, Nat.zero_le _⟩ [] rfl (by decide) (fun _ => rfl) rfl (Nat.le_of_ble_eq_true rfl) rfl dX8_isRow_26 (fun r_7 u H locs h_8 hP hD hS => ?_)
        have hP : va_P D vwCl [] H := hP
        have hD : va_D A [] := hD
        have h_8 : r_7 = nI (zdi w d i) := h_8
        subst h_8
        refine z_callSi (As := [.int (nI (zdi w d i))]) (rest := []) Z hP hD hS hl.1 (zc_X8_isKind l D cI cZ (nI (zdi w d i)) ) zm330 zm331 zm30 zm332 zd_X8_isKind ⟨Nat.le_of_ble_eq_true rfl, Nat.le_of_ble_eq_true rfl⟩ ⟨Nat.zero_le _, Nat.zero_le _⟩ [] rfl (by decide) (fun _ => rfl) rfl (Nat.le_of_ble_eq_true rfl) rfl dX8_isRow_29 (fun r_9 u H locs h_10 hP hD hS => ?_)
        have hP : va_P D vwCl [] H := hP
        have hD : va_D A [] := hD
        have h_10 : r_9 = if zkind (nI (zdi w d i)) then 1 else 0 := h_10
        subst h_10
        refine lv_if_ne (tgt := 37) hx hb dX8_isRow_32 (by decide) (fun c_11 => ?_) (fun c_11 => ?_)
        · have c_11 := zb1 c_11
          have hz4 := zkind_lt c_11 (Nat.lt_of_lt_of_le (Nat.mod_lt _ (by decide)) (by decide))
          refine lv_iinc (v := nI (i + 1)) (lv' := [(2, .int (nI (i + 1))), (0, .int (nI w)), (1, .int (nI d))]) hx hb dX8_isRow_37 hl (k := 0) rfl (z_inc _ 1) (by decide) rfl (fun ls hl => ?_)
          refine lv_goto (tgt := 18) hx hb dX8_isRow_40 (by decide) ?_
          have hl : lv_has ls 3 [(2, .int (nI (i + 1))), (0, .int (nI w)), (1, .int (nI d))] := lv_sub hl [0, 1, 2] rfl
          exact ih_5 _ _ _ (by omega) ⟨hP, hD, hS, hl, (by unfold zrw; rw [hv18_0, decide_eq_true hz4]; rfl)⟩
        · have c_11 := zb0 c_11
          have hz := zrw_false (c := d) (show ¬ zdi w d i < 4 from fun q => c_11 (zkind_nat q)) (by omega)
          refine lv_iconst (v := nI 0) hx hb dX8_isRow_35 (by decide) ?_
          exact z_zret Z () (by decide) (by first | (rw [if_pos ((zirow_nat hw hd).mpr ⟨by omega, by assumption⟩)]; rfl) | (rw [if_neg (fun q => q.1 (by assumption))]; rfl) | (rw [if_neg (fun q => absurd ((zirow_nat hw hd).mp q).1 (by omega))]; rfl) | (rw [if_neg (fun q => by have q2 := ((zirow_nat hw hd).mp q).2; rw [hz] at q2; cases q2)]; rfl)) hP hS dX8_isRow_36
    · have c_4 := znlt (i := w) (j := 10 ^ d) (by omega) (by omega) c_4
      refine lv_iconst (v := nI 0) hx hb dX8_isRow_14 (by decide) ?_
      exact z_zret Z () (by decide) (by first | (rw [if_pos ((zirow_nat hw hd).mpr ⟨by omega, by assumption⟩)]; rfl) | (rw [if_neg (fun q => q.1 (by assumption))]; rfl) | (rw [if_neg (fun q => absurd ((zirow_nat hw hd).mp q).1 (by omega))]; rfl) | (rw [if_neg (fun q => by have q2 := ((zirow_nat hw hd).mp q).2; rw [hz] at q2; cases q2)]; rfl)) hP hS dX8_isRow_15

theorem dX8_write_0 : decode cX8_write 0 = .ok (.iload_n 1, 1) := by decide +kernel
theorem dX8_write_1 : decode cX8_write 1 = .ok (.ifCond .lt 10, 3) := by decide +kernel
theorem dX8_write_4 : decode cX8_write 4 = .ok (.iload_n 1, 1) := by decide +kernel
theorem dX8_write_5 : decode cX8_write 5 = .ok (.sipush 255, 3) := by decide +kernel
theorem dX8_write_8 : decode cX8_write 8 = .ok (.if_icmp .le 6, 3) := by decide +kernel
theorem dX8_write_11 : decode cX8_write 11 = .ok (.bipush (-2), 2) := by decide +kernel
theorem dX8_write_13 : decode cX8_write 13 = .ok (.ireturn, 1) := by decide +kernel
theorem dX8_write_14 : decode cX8_write 14 = .ok (.aload_n 0, 1) := by decide +kernel
theorem dX8_write_15 : decode cX8_write 15 = .ok (.getfield 10, 3) := by decide +kernel
theorem dX8_write_18 : decode cX8_write 18 = .ok (.invokevirtual 79, 3) := by decide +kernel
theorem dX8_write_21 : decode cX8_write 21 = .ok (.bipush 64, 2) := by decide +kernel
theorem dX8_write_23 : decode cX8_write 23 = .ok (.if_icmp .lt 6, 3) := by decide +kernel
theorem dX8_write_26 : decode cX8_write 26 = .ok (.bipush (-4), 2) := by decide +kernel
theorem dX8_write_28 : decode cX8_write 28 = .ok (.ireturn, 1) := by decide +kernel
theorem dX8_write_29 : decode cX8_write 29 = .ok (.aload_n 0, 1) := by decide +kernel
theorem dX8_write_30 : decode cX8_write 30 = .ok (.getfield 10, 3) := by decide +kernel
theorem dX8_write_33 : decode cX8_write 33 = .ok (.iload_n 1, 1) := by decide +kernel
theorem dX8_write_34 : decode cX8_write 34 = .ok (.invokevirtual 83, 3) := by decide +kernel
theorem dX8_write_37 : decode cX8_write 37 = .ok (.aload_n 0, 1) := by decide +kernel
theorem dX8_write_38 : decode cX8_write 38 = .ok (.getfield 10, 3) := by decide +kernel
theorem dX8_write_41 : decode cX8_write 41 = .ok (.invokevirtual 79, 3) := by decide +kernel
theorem dX8_write_44 : decode cX8_write 44 = .ok (.ireturn, 1) := by decide +kernel
theorem zd_X8_write : yX8_write.cls ≠ "java/lang/invoke/MethodHandle" ∧ yX8_write.cls ≠ "java/lang/invoke/VarHandle" ∧ (parseMethodDescriptor yX8_write.desc).map (fun d => d.parameters.length) = some 1 := by decide +kernel
set_option maxHeartbeats 4000000 in
set_option maxRecDepth 100000 in
theorem zc_X8_write (l : Launch) (D : va_G) (cI cZ : ClassId) (o : Nat) (tx : Nat) (r : Nat) (a : Nat) (r2 : Nat) (a2 : Nat) (x : Nat) (y : Nat) (z : Nat) (v : Nat) (h : Nat) (sd : Int64) (tb : Nat) (tt : Nat) (len : Nat) (at_ : Nat) (ft : Int32) (bf : Nat → Int32) (x1 : Int32) (hlen : len ≤ 64) : zI l yX8_write cX8_write 2 .int 1 21 D cI cZ [.ref o, .int x1] [(o, .inr (8, [.ref tx, .ref r, .ref a, .ref r2, .ref a2, .ref x, .ref y, .ref z, .ref v, .ref h, .long sd])), (tx, .inr (7, [.ref tb, .ref tt, .int (nI len), .int (nI at_), .int ft])), (tb, .inl (cI, 64, .inl bf))] (fun (r : Int32) (u : Unit) => r = zRa 0 255 x1 (fun _ => if len < 64 then nI (len + 1) else -4) (-2)) (fun (u : Unit) => [(o, .inr (8, [.ref tx, .ref r, .ref a, .ref r2, .ref a2, .ref x, .ref y, .ref z, .ref v, .ref h, .long sd])), (tx, .inr (7, [.ref tb, .ref tt, .int (nI (zRa 0 255 x1 (fun _ => if len < 64 then len + 1 else len) len)), .int (nI at_), .int ft])), (tb, .inl (cI, 64, .inl (zRa 0 255 x1 (fun _ => if len < 64 then upd bf len x1 else bf) bf)))]) := by
  refine zI_of (by decide) (Nat.le_of_ble_eq_true rfl) ?_
  intro pP eE sS mM aA bB mT cC A ls Z hP hD hS hl
  have hx := Z.1
  have hb := Z.2.1
  have hown := Z.2.2.2.2.2.1
  have hts := Z.2.2.2.2.1
  have Z : zAt pP sS mM aA mT cC D cI cZ A "SurpriseTax" cX8_write 2 (some .int) := Z
  have hl : lv_has ls 2 [(0, .ref o), (1, .int x1)] := hl
  obtain ⟨H, hH⟩ : ∃ H, H = sS.heap := ⟨_, rfl⟩
  have hP : va_P D vwCl [(o, .inr (8, [.ref tx, .ref r, .ref a, .ref r2, .ref a2, .ref x, .ref y, .ref z, .ref v, .ref h, .long sd])), (tx, .inr (7, [.ref tb, .ref tt, .int (nI len), .int (nI at_), .int ft])), (tb, .inl (cI, 64, .inl bf))] H := by rw [hH]; exact hP
  have hS : va_S A sS.heap H [] := by rw [hH]; exact hS
  rw [← hH]
  clear hH
  obtain ⟨locs, hlo⟩ : ∃ q : List Loc, q = [] := ⟨_, rfl⟩
  rw [← hlo] at hS ⊢
  clear hlo
  refine lv_iload_n hx hb dX8_write_0 rfl (lv_at hl 1 rfl) ?_
  refine lv_if_lt (tgt := 11) hx hb dX8_write_1 (by decide) (fun c_1 => ?_) (fun c_1 => ?_)
  · have c_1 : x1 < 0 := c_1
    refine lv_bipush (v := -2) hx hb dX8_write_11 (by decide) ?_
    have e_2 : nI len = nI (zRa 0 255 x1 (fun _ => if len < 64 then len + 1 else len) len) := by first | rw [zRa_lo (by assumption)] | rw [zRa_hi (by assumption)] | (rw [zRa_y hk0 hk (by decide)]; first | rw [if_pos (by assumption)] | rw [if_neg (by omega)])
    have hP : va_P D vwCl [(o, .inr (8, [.ref tx, .ref r, .ref a, .ref r2, .ref a2, .ref x, .ref y, .ref z, .ref v, .ref h, .long sd])), (tx, .inr (7, [.ref tb, .ref tt, .int (nI (zRa 0 255 x1 (fun _ => if len < 64 then len + 1 else len) len)), .int (nI at_), .int ft])), (tb, .inl (cI, 64, .inl bf))] H := Eq.subst (motive := fun zz_ => va_P D vwCl [(o, .inr (8, [.ref tx, .ref r, .ref a, .ref r2, .ref a2, .ref x, .ref y, .ref z, .ref v, .ref h, .long sd])), (tx, .inr (7, [.ref tb, .ref tt, .int zz_, .int (nI at_), .int ft])), (tb, .inl (cI, 64, .inl bf))] H) e_2 hP
    have e_3 : bf = zRa 0 255 x1 (fun _ => if len < 64 then upd bf len x1 else bf) bf := by first | rw [zRa_lo (by assumption)] | rw [zRa_hi (by assumption)] | (rw [zRa_y hk0 hk (by decide)]; first | rw [if_pos (by assumption)] | rw [if_neg (by omega)])
    have hP : va_P D vwCl [(o, .inr (8, [.ref tx, .ref r, .ref a, .ref r2, .ref a2, .ref x, .ref y, .ref z, .ref v, .ref h, .long sd])), (tx, .inr (7, [.ref tb, .ref tt, .int (nI (zRa 0 255 x1 (fun _ => if len < 64 then len + 1 else len) len)), .int (nI at_), .int ft])), (tb, .inl (cI, 64, .inl (zRa 0 255 x1 (fun _ => if len < 64 then upd bf len x1 else bf) bf)))] H := Eq.subst (motive := fun zz_ => va_P D vwCl [(o, .inr (8, [.ref tx, .ref r, .ref a, .ref r2, .ref a2, .ref x, .ref y, .ref z, .ref v, .ref h, .long sd])), (tx, .inr (7, [.ref tb, .ref tt, .int (nI (zRa 0 255 x1 (fun _ => if len < 64 then len + 1 else len) len)), .int (nI at_), .int ft])), (tb, .inl (cI, 64, .inl zz_))] H) e_3 hP
    have hD : va_D A [(o, .inr (8, [.ref tx, .ref r, .ref a, .ref r2, .ref a2, .ref x, .ref y, .ref z, .ref v, .ref h, .long sd])), (tx, .inr (7, [.ref tb, .ref tt, .int (nI (zRa 0 255 x1 (fun _ => if len < 64 then len + 1 else len) len)), .int (nI at_), .int ft])), (tb, .inl (cI, 64, .inl (zRa 0 255 x1 (fun _ => if len < 64 then upd bf len x1 else bf) bf)))] := zD_of hD rfl
    exact z_iret Z () (by first | rw [zRa_lo (by assumption)] | rw [zRa_hi (by assumption)] | (rw [zRa_y hk0 hk (by decide)]; first | rw [if_pos (by assumption)] | rw [if_neg (by omega)])) hP hS dX8_write_13
  · have c_1 : ¬ (x1 < 0) := c_1
    refine lv_iload_n hx hb dX8_write_4 rfl (lv_at hl 1 rfl) ?_
    refine lv_sipush (v := nI 255) hx hb dX8_write_5 (by decide) ?_
    refine lv_icmp_le (tgt := 14) hx hb dX8_write_8 (by decide) (fun c_4 => ?_) (fun c_4 => ?_)
    · have c_4 : x1 ≤ 255 := c_4
      obtain ⟨k, hk0, hk, rfl⟩ := zRa_of (lo := 0) (hi := 255) (by decide) (by decide) (by assumption) (by assumption)
      refine lv_aload_n hx hb dX8_write_14 rfl (lv_at hl 0 rfl) ?_
      refine z_get (ci := 8) (v := .ref tx) Z zin8 hP 0 rfl rfl 0 (by decide) zm174 rfl rfl dX8_write_15 ?_
      refine z_callVi (As := []) (rest := []) (ci := 7) (k0 := 0) Z hP hD hS hl.1 (zc_X7_length l D cI cZ tx tb tt len at_ ft ) zm200 zm201 zm202 zm31 zm203 ⟨rfl, zd_X7_length⟩ ⟨Nat.le_of_ble_eq_true rfl, Nat.le_of_ble_eq_true rfl⟩ ⟨Nat.zero_le _, Nat.zero_le _⟩ [1] rfl (by decide) rfl rfl rfl (fun _ => rfl) rfl (Nat.le_of_ble_eq_true rfl) rfl dX8_write_18 (fun r_5 u H locs h_6 hP hD hS => ?_)
      have hP : va_P D vwCl [(o, .inr (8, [.ref tx, .ref r, .ref a, .ref r2, .ref a2, .ref x, .ref y, .ref z, .ref v, .ref h, .long sd])), (tx, .inr (7, [.ref tb, .ref tt, .int (nI len), .int (nI at_), .int ft])), (tb, .inl (cI, 64, .inl bf))] H := hP
      have hD : va_D A [(o, .inr (8, [.ref tx, .ref r, .ref a, .ref r2, .ref a2, .ref x, .ref y, .ref z, .ref v, .ref h, .long sd])), (tx, .inr (7, [.ref tb, .ref tt, .int (nI len), .int (nI at_), .int ft])), (tb, .inl (cI, 64, .inl bf))] := hD
      have h_6 : r_5 = nI len := h_6
      subst h_6
      refine lv_bipush (v := nI 64) hx hb dX8_write_21 (by decide) ?_
      refine lv_icmp_lt (tgt := 29) hx hb dX8_write_23 (by decide) (fun c_7 => ?_) (fun c_7 => ?_)
      · have c_7 := zlt (i := len) (j := 64) (by omega) (by decide) c_7
        refine lv_aload_n hx hb dX8_write_29 rfl (lv_at hl 0 rfl) ?_
        refine z_get (ci := 8) (v := .ref tx) Z zin8 hP 0 rfl rfl 0 (by decide) zm174 rfl rfl dX8_write_30 ?_
        refine lv_iload_n hx hb dX8_write_33 rfl (lv_at hl 1 rfl) ?_
        refine z_callVv (As := [.int (nI k)]) (rest := []) (ci := 7) (k0 := 0) Z hP hD hS hl.1 (zc_X7_add l D cI cZ tx tb tt len at_ ft bf (nI k) (by omega)) zm204 zm205 zm206 zm31 zm207 ⟨rfl, zd_X7_add⟩ ⟨Nat.le_of_ble_eq_true rfl, Nat.le_of_ble_eq_true rfl⟩ ⟨Nat.zero_le _, Nat.zero_le _⟩ [1, 2] rfl (by decide) rfl rfl rfl (fun _ => rfl) rfl (Nat.le_of_ble_eq_true rfl) rfl dX8_write_34 (fun u H locs h_9 hP hD hS => ?_)
        have hP : va_P D vwCl [(o, .inr (8, [.ref tx, .ref r, .ref a, .ref r2, .ref a2, .ref x, .ref y, .ref z, .ref v, .ref h, .long sd])), (tx, .inr (7, [.ref tb, .ref tt, .int (nI (len + 1)), .int (nI at_), .int ft])), (tb, .inl (cI, 64, .inl (upd bf len (nI k))))] H := hP
        have hD : va_D A [(o, .inr (8, [.ref tx, .ref r, .ref a, .ref r2, .ref a2, .ref x, .ref y, .ref z, .ref v, .ref h, .long sd])), (tx, .inr (7, [.ref tb, .ref tt, .int (nI (len + 1)), .int (nI at_), .int ft])), (tb, .inl (cI, 64, .inl (upd bf len (nI k))))] := hD
        refine lv_aload_n hx hb dX8_write_37 rfl (lv_at hl 0 rfl) ?_
        refine z_get (ci := 8) (v := .ref tx) Z zin8 hP 0 rfl rfl 0 (by decide) zm174 rfl rfl dX8_write_38 ?_
        refine z_callVi (As := []) (rest := []) (ci := 7) (k0 := 0) Z hP hD hS hl.1 (zc_X7_length l D cI cZ tx tb tt (len + 1) at_ ft ) zm200 zm201 zm202 zm31 zm203 ⟨rfl, zd_X7_length⟩ ⟨Nat.le_of_ble_eq_true rfl, Nat.le_of_ble_eq_true rfl⟩ ⟨Nat.zero_le _, Nat.zero_le _⟩ [1] rfl (by decide) rfl rfl rfl (fun _ => rfl) rfl (Nat.le_of_ble_eq_true rfl) rfl dX8_write_41 (fun r_10 u H locs h_11 hP hD hS => ?_)
        have hP : va_P D vwCl [(o, .inr (8, [.ref tx, .ref r, .ref a, .ref r2, .ref a2, .ref x, .ref y, .ref z, .ref v, .ref h, .long sd])), (tx, .inr (7, [.ref tb, .ref tt, .int (nI (len + 1)), .int (nI at_), .int ft])), (tb, .inl (cI, 64, .inl (upd bf len (nI k))))] H := hP
        have hD : va_D A [(o, .inr (8, [.ref tx, .ref r, .ref a, .ref r2, .ref a2, .ref x, .ref y, .ref z, .ref v, .ref h, .long sd])), (tx, .inr (7, [.ref tb, .ref tt, .int (nI (len + 1)), .int (nI at_), .int ft])), (tb, .inl (cI, 64, .inl (upd bf len (nI k))))] := hD
        have h_11 : r_10 = nI (len + 1) := h_11
        subst h_11
        have e_12 : nI (len + 1) = nI (zRa 0 255 (nI k) (fun _ => if len < 64 then len + 1 else len) len) := by first | rw [zRa_lo (by assumption)] | rw [zRa_hi (by assumption)] | (rw [zRa_y hk0 hk (by decide)]; first | rw [if_pos (by assumption)] | rw [if_neg (by omega)])
        have hP : va_P D vwCl [(o, .inr (8, [.ref tx, .ref r, .ref a, .ref r2, .ref a2, .ref x, .ref y, .ref z, .ref v, .ref h, .long sd])), (tx, .inr (7, [.ref tb, .ref tt, .int (nI (zRa 0 255 (nI k) (fun _ => if len < 64 then len + 1 else len) len)), .int (nI at_), .int ft])), (tb, .inl (cI, 64, .inl (upd bf len (nI k))))] H := Eq.subst (motive := fun zz_ => va_P D vwCl [(o, .inr (8, [.ref tx, .ref r, .ref a, .ref r2, .ref a2, .ref x, .ref y, .ref z, .ref v, .ref h, .long sd])), (tx, .inr (7, [.ref tb, .ref tt, .int zz_, .int (nI at_), .int ft])), (tb, .inl (cI, 64, .inl (upd bf len (nI k))))] H) e_12 hP
        have e_13 : upd bf len (nI k) = zRa 0 255 (nI k) (fun _ => if len < 64 then upd bf len (nI k) else bf) bf := by first | rw [zRa_lo (by assumption)] | rw [zRa_hi (by assumption)] | (rw [zRa_y hk0 hk (by decide)]; first | rw [if_pos (by assumption)] | rw [if_neg (by omega)])
        have hP : va_P D vwCl [(o, .inr (8, [.ref tx, .ref r, .ref a, .ref r2, .ref a2, .ref x, .ref y, .ref z, .ref v, .ref h, .long sd])), (tx, .inr (7, [.ref tb, .ref tt, .int (nI (zRa 0 255 (nI k) (fun _ => if len < 64 then len + 1 else len) len)), .int (nI at_), .int ft])), (tb, .inl (cI, 64, .inl (zRa 0 255 (nI k) (fun _ => if len < 64 then upd bf len (nI k) else bf) bf)))] H := Eq.subst (motive := fun zz_ => va_P D vwCl [(o, .inr (8, [.ref tx, .ref r, .ref a, .ref r2, .ref a2, .ref x, .ref y, .ref z, .ref v, .ref h, .long sd])), (tx, .inr (7, [.ref tb, .ref tt, .int (nI (zRa 0 255 (nI k) (fun _ => if len < 64 then len + 1 else len) len)), .int (nI at_), .int ft])), (tb, .inl (cI, 64, .inl zz_))] H) e_13 hP
        have hD : va_D A [(o, .inr (8, [.ref tx, .ref r, .ref a, .ref r2, .ref a2, .ref x, .ref y, .ref z, .ref v, .ref h, .long sd])), (tx, .inr (7, [.ref tb, .ref tt, .int (nI (zRa 0 255 (nI k) (fun _ => if len < 64 then len + 1 else len) len)), .int (nI at_), .int ft])), (tb, .inl (cI, 64, .inl (zRa 0 255 (nI k) (fun _ => if len < 64 then upd bf len (nI k) else bf) bf)))] := zD_of hD rfl
        exact z_iret Z () (by first | rw [zRa_lo (by assumption)] | rw [zRa_hi (by assumption)] | (rw [zRa_y hk0 hk (by decide)]; first | rw [if_pos (by assumption)] | rw [if_neg (by omega)])) hP hS dX8_write_44
      · have c_7 := znlt (i := len) (j := 64) (by omega) (by decide) c_7
        refine lv_bipush (v := -4) hx hb dX8_write_26 (by decide) ?_
        have e_14 : nI len = nI (zRa 0 255 (nI k) (fun _ => if len < 64 then len + 1 else len) len) := by first | rw [zRa_lo (by assumption)] | rw [zRa_hi (by assumption)] | (rw [zRa_y hk0 hk (by decide)]; first | rw [if_pos (by assumption)] | rw [if_neg (by omega)])
        have hP : va_P D vwCl [(o, .inr (8, [.ref tx, .ref r, .ref a, .ref r2, .ref a2, .ref x, .ref y, .ref z, .ref v, .ref h, .long sd])), (tx, .inr (7, [.ref tb, .ref tt, .int (nI (zRa 0 255 (nI k) (fun _ => if len < 64 then len + 1 else len) len)), .int (nI at_), .int ft])), (tb, .inl (cI, 64, .inl bf))] H := Eq.subst (motive := fun zz_ => va_P D vwCl [(o, .inr (8, [.ref tx, .ref r, .ref a, .ref r2, .ref a2, .ref x, .ref y, .ref z, .ref v, .ref h, .long sd])), (tx, .inr (7, [.ref tb, .ref tt, .int zz_, .int (nI at_), .int ft])), (tb, .inl (cI, 64, .inl bf))] H) e_14 hP
        have e_15 : bf = zRa 0 255 (nI k) (fun _ => if len < 64 then upd bf len (nI k) else bf) bf := by first | rw [zRa_lo (by assumption)] | rw [zRa_hi (by assumption)] | (rw [zRa_y hk0 hk (by decide)]; first | rw [if_pos (by assumption)] | rw [if_neg (by omega)])
        have hP : va_P D vwCl [(o, .inr (8, [.ref tx, .ref r, .ref a, .ref r2, .ref a2, .ref x, .ref y, .ref z, .ref v, .ref h, .long sd])), (tx, .inr (7, [.ref tb, .ref tt, .int (nI (zRa 0 255 (nI k) (fun _ => if len < 64 then len + 1 else len) len)), .int (nI at_), .int ft])), (tb, .inl (cI, 64, .inl (zRa 0 255 (nI k) (fun _ => if len < 64 then upd bf len (nI k) else bf) bf)))] H := Eq.subst (motive := fun zz_ => va_P D vwCl [(o, .inr (8, [.ref tx, .ref r, .ref a, .ref r2, .ref a2, .ref x, .ref y, .ref z, .ref v, .ref h, .long sd])), (tx, .inr (7, [.ref tb, .ref tt, .int (nI (zRa 0 255 (nI k) (fun _ => if len < 64 then len + 1 else len) len)), .int (nI at_), .int ft])), (tb, .inl (cI, 64, .inl zz_))] H) e_15 hP
        have hD : va_D A [(o, .inr (8, [.ref tx, .ref r, .ref a, .ref r2, .ref a2, .ref x, .ref y, .ref z, .ref v, .ref h, .long sd])), (tx, .inr (7, [.ref tb, .ref tt, .int (nI (zRa 0 255 (nI k) (fun _ => if len < 64 then len + 1 else len) len)), .int (nI at_), .int ft])), (tb, .inl (cI, 64, .inl (zRa 0 255 (nI k) (fun _ => if len < 64 then upd bf len (nI k) else bf) bf)))] := zD_of hD rfl
        exact z_iret Z () (by first | rw [zRa_lo (by assumption)] | rw [zRa_hi (by assumption)] | (rw [zRa_y hk0 hk (by decide)]; first | rw [if_pos (by assumption)] | rw [if_neg (by omega)])) hP hS dX8_write_28
    · have c_4 : ¬ (x1 ≤ 255) := c_4
      refine lv_bipush (v := -2) hx hb dX8_write_11 (by decide) ?_
      have e_16 : nI len = nI (zRa 0 255 x1 (fun _ => if len < 64 then len + 1 else len) len) := by first | rw [zRa_lo (by assumption)] | rw [zRa_hi (by assumption)] | (rw [zRa_y hk0 hk (by decide)]; first | rw [if_pos (by assumption)] | rw [if_neg (by omega)])
      have hP : va_P D vwCl [(o, .inr (8, [.ref tx, .ref r, .ref a, .ref r2, .ref a2, .ref x, .ref y, .ref z, .ref v, .ref h, .long sd])), (tx, .inr (7, [.ref tb, .ref tt, .int (nI (zRa 0 255 x1 (fun _ => if len < 64 then len + 1 else len) len)), .int (nI at_), .int ft])), (tb, .inl (cI, 64, .inl bf))] H := Eq.subst (motive := fun zz_ => va_P D vwCl [(o, .inr (8, [.ref tx, .ref r, .ref a, .ref r2, .ref a2, .ref x, .ref y, .ref z, .ref v, .ref h, .long sd])), (tx, .inr (7, [.ref tb, .ref tt, .int zz_, .int (nI at_), .int ft])), (tb, .inl (cI, 64, .inl bf))] H) e_16 hP
      have e_17 : bf = zRa 0 255 x1 (fun _ => if len < 64 then upd bf len x1 else bf) bf := by first | rw [zRa_lo (by assumption)] | rw [zRa_hi (by assumption)] | (rw [zRa_y hk0 hk (by decide)]; first | rw [if_pos (by assumption)] | rw [if_neg (by omega)])
      have hP : va_P D vwCl [(o, .inr (8, [.ref tx, .ref r, .ref a, .ref r2, .ref a2, .ref x, .ref y, .ref z, .ref v, .ref h, .long sd])), (tx, .inr (7, [.ref tb, .ref tt, .int (nI (zRa 0 255 x1 (fun _ => if len < 64 then len + 1 else len) len)), .int (nI at_), .int ft])), (tb, .inl (cI, 64, .inl (zRa 0 255 x1 (fun _ => if len < 64 then upd bf len x1 else bf) bf)))] H := Eq.subst (motive := fun zz_ => va_P D vwCl [(o, .inr (8, [.ref tx, .ref r, .ref a, .ref r2, .ref a2, .ref x, .ref y, .ref z, .ref v, .ref h, .long sd])), (tx, .inr (7, [.ref tb, .ref tt, .int (nI (zRa 0 255 x1 (fun _ => if len < 64 then len + 1 else len) len)), .int (nI at_), .int ft])), (tb, .inl (cI, 64, .inl zz_))] H) e_17 hP
      have hD : va_D A [(o, .inr (8, [.ref tx, .ref r, .ref a, .ref r2, .ref a2, .ref x, .ref y, .ref z, .ref v, .ref h, .long sd])), (tx, .inr (7, [.ref tb, .ref tt, .int (nI (zRa 0 255 x1 (fun _ => if len < 64 then len + 1 else len) len)), .int (nI at_), .int ft])), (tb, .inl (cI, 64, .inl (zRa 0 255 x1 (fun _ => if len < 64 then upd bf len x1 else bf) bf)))] := zD_of hD rfl
      exact z_iret Z () (by first | rw [zRa_lo (by assumption)] | rw [zRa_hi (by assumption)] | (rw [zRa_y hk0 hk (by decide)]; first | rw [if_pos (by assumption)] | rw [if_neg (by omega)])) hP hS dX8_write_13

theorem dX8_wipe_0 : decode cX8_wipe 0 = .ok (.aload_n 0, 1) := by decide +kernel
theorem dX8_wipe_1 : decode cX8_wipe 1 = .ok (.getfield 10, 3) := by decide +kernel
theorem dX8_wipe_4 : decode cX8_wipe 4 = .ok (.invokevirtual 79, 3) := by decide +kernel
theorem dX8_wipe_7 : decode cX8_wipe 7 = .ok (.istore_n 1, 1) := by decide +kernel
theorem dX8_wipe_8 : decode cX8_wipe 8 = .ok (.aload_n 0, 1) := by decide +kernel
theorem dX8_wipe_9 : decode cX8_wipe 9 = .ok (.getfield 10, 3) := by decide +kernel
theorem dX8_wipe_12 : decode cX8_wipe 12 = .ok (.invokevirtual 87, 3) := by decide +kernel
theorem dX8_wipe_15 : decode cX8_wipe 15 = .ok (.iload_n 1, 1) := by decide +kernel
theorem dX8_wipe_16 : decode cX8_wipe 16 = .ok (.ireturn, 1) := by decide +kernel
theorem zd_X8_wipe : yX8_wipe.cls ≠ "java/lang/invoke/MethodHandle" ∧ yX8_wipe.cls ≠ "java/lang/invoke/VarHandle" ∧ (parseMethodDescriptor yX8_wipe.desc).map (fun d => d.parameters.length) = some 0 := by decide +kernel
set_option maxHeartbeats 4000000 in
set_option maxRecDepth 100000 in
theorem zc_X8_wipe (l : Launch) (D : va_G) (cI cZ : ClassId) (o : Nat) (tx : Nat) (r : Nat) (a : Nat) (r2 : Nat) (a2 : Nat) (x : Nat) (y : Nat) (z : Nat) (v : Nat) (h : Nat) (sd : Int64) (tb : Nat) (tt : Nat) (len : Nat) (at_ : Nat) (ft : Int32) : zI l yX8_wipe cX8_wipe 2 .int 1 20 D cI cZ [.ref o] [(o, .inr (8, [.ref tx, .ref r, .ref a, .ref r2, .ref a2, .ref x, .ref y, .ref z, .ref v, .ref h, .long sd])), (tx, .inr (7, [.ref tb, .ref tt, .int (nI len), .int (nI at_), .int ft]))] (fun (r : Int32) (u : Unit) => r = nI len) (fun (u : Unit) => [(o, .inr (8, [.ref tx, .ref r, .ref a, .ref r2, .ref a2, .ref x, .ref y, .ref z, .ref v, .ref h, .long sd])), (tx, .inr (7, [.ref tb, .ref tt, .int (nI 0), .int (nI at_), .int ft]))]) := by
  refine zI_of (by decide) (Nat.le_of_ble_eq_true rfl) ?_
  intro pP eE sS mM aA bB mT cC A ls Z hP hD hS hl
  have hx := Z.1
  have hb := Z.2.1
  have hown := Z.2.2.2.2.2.1
  have hts := Z.2.2.2.2.1
  have Z : zAt pP sS mM aA mT cC D cI cZ A "SurpriseTax" cX8_wipe 2 (some .int) := Z
  have hl : lv_has ls 2 [(0, .ref o)] := hl
  obtain ⟨H, hH⟩ : ∃ H, H = sS.heap := ⟨_, rfl⟩
  have hP : va_P D vwCl [(o, .inr (8, [.ref tx, .ref r, .ref a, .ref r2, .ref a2, .ref x, .ref y, .ref z, .ref v, .ref h, .long sd])), (tx, .inr (7, [.ref tb, .ref tt, .int (nI len), .int (nI at_), .int ft]))] H := by rw [hH]; exact hP
  have hS : va_S A sS.heap H [] := by rw [hH]; exact hS
  rw [← hH]
  clear hH
  obtain ⟨locs, hlo⟩ : ∃ q : List Loc, q = [] := ⟨_, rfl⟩
  rw [← hlo] at hS ⊢
  clear hlo
  refine lv_aload_n hx hb dX8_wipe_0 rfl (lv_at hl 0 rfl) ?_
  refine z_get (ci := 8) (v := .ref tx) Z zin8 hP 0 rfl rfl 0 (by decide) zm174 rfl rfl dX8_wipe_1 ?_
  refine z_callVi (As := []) (rest := []) (ci := 7) (k0 := 0) Z hP hD hS hl.1 (zc_X7_length l D cI cZ tx tb tt len at_ ft ) zm200 zm201 zm202 zm31 zm203 ⟨rfl, zd_X7_length⟩ ⟨Nat.le_of_ble_eq_true rfl, Nat.le_of_ble_eq_true rfl⟩ ⟨Nat.zero_le _, Nat.zero_le _⟩ [1] rfl (by decide) rfl rfl rfl (fun _ => rfl) rfl (Nat.le_of_ble_eq_true rfl) rfl dX8_wipe_4 (fun r_1 u H locs h_2 hP hD hS => ?_)
  have hP : va_P D vwCl [(o, .inr (8, [.ref tx, .ref r, .ref a, .ref r2, .ref a2, .ref x, .ref y, .ref z, .ref v, .ref h, .long sd])), (tx, .inr (7, [.ref tb, .ref tt, .int (nI len), .int (nI at_), .int ft]))] H := hP
  have hD : va_D A [(o, .inr (8, [.ref tx, .ref r, .ref a, .ref r2, .ref a2, .ref x, .ref y, .ref z, .ref v, .ref h, .long sd])), (tx, .inr (7, [.ref tb, .ref tt, .int (nI len), .int (nI at_), .int ft]))] := hD
  have h_2 : r_1 = nI len := h_2
  subst h_2
  refine lv_istore_n (lv' := [(1, .int (nI len)), (0, .ref o)]) hx hb dX8_wipe_7 rfl hl (by decide) rfl (fun ls hl => ?_)
  refine lv_aload_n hx hb dX8_wipe_8 rfl (lv_at hl 1 rfl) ?_
  refine z_get (ci := 8) (v := .ref tx) Z zin8 hP 0 rfl rfl 0 (by decide) zm174 rfl rfl dX8_wipe_9 ?_
  refine z_callVv (As := []) (rest := []) (ci := 7) (k0 := 0) Z hP hD hS hl.1 (zc_X7_clear l D cI cZ tx tb tt len at_ ft ) zm212 zm213 zm214 zm31 zm215 ⟨rfl, zd_X7_clear⟩ ⟨Nat.le_of_ble_eq_true rfl, Nat.le_of_ble_eq_true rfl⟩ ⟨Nat.zero_le _, Nat.zero_le _⟩ [1] rfl (by decide) rfl rfl rfl (fun _ => rfl) rfl (Nat.le_of_ble_eq_true rfl) rfl dX8_wipe_12 (fun u H locs h_4 hP hD hS => ?_)
  have hP : va_P D vwCl [(o, .inr (8, [.ref tx, .ref r, .ref a, .ref r2, .ref a2, .ref x, .ref y, .ref z, .ref v, .ref h, .long sd])), (tx, .inr (7, [.ref tb, .ref tt, .int (nI 0), .int (nI at_), .int ft]))] H := hP
  have hD : va_D A [(o, .inr (8, [.ref tx, .ref r, .ref a, .ref r2, .ref a2, .ref x, .ref y, .ref z, .ref v, .ref h, .long sd])), (tx, .inr (7, [.ref tb, .ref tt, .int (nI 0), .int (nI at_), .int ft]))] := hD
  refine lv_iload_n hx hb dX8_wipe_15 rfl (lv_at hl 0 rfl) ?_
  exact z_iret Z () rfl hP hS dX8_wipe_16

theorem dX8_about_0 : decode cX8_about 0 = .ok (.iload_n 1, 1) := by decide +kernel
theorem dX8_about_1 : decode cX8_about 1 = .ok (.tableswitch 151 0 10 #[59, 67, 75, 83, 91, 99, 107, 119, 127, 135, 143], 59) := by decide +kernel
theorem dX8_about_60 : decode cX8_about 60 = .ok (.aload_n 0, 1) := by decide +kernel
theorem dX8_about_61 : decode cX8_about 61 = .ok (.getfield 19, 3) := by decide +kernel
theorem dX8_about_64 : decode cX8_about 64 = .ok (.getfield 96, 3) := by decide +kernel
theorem dX8_about_67 : decode cX8_about 67 = .ok (.ireturn, 1) := by decide +kernel
theorem dX8_about_68 : decode cX8_about 68 = .ok (.aload_n 0, 1) := by decide +kernel
theorem dX8_about_69 : decode cX8_about 69 = .ok (.getfield 19, 3) := by decide +kernel
theorem dX8_about_72 : decode cX8_about 72 = .ok (.getfield 100, 3) := by decide +kernel
theorem dX8_about_75 : decode cX8_about 75 = .ok (.ireturn, 1) := by decide +kernel
theorem dX8_about_76 : decode cX8_about 76 = .ok (.aload_n 0, 1) := by decide +kernel
theorem dX8_about_77 : decode cX8_about 77 = .ok (.getfield 19, 3) := by decide +kernel
theorem dX8_about_80 : decode cX8_about 80 = .ok (.getfield 103, 3) := by decide +kernel
theorem dX8_about_83 : decode cX8_about 83 = .ok (.ireturn, 1) := by decide +kernel
theorem dX8_about_84 : decode cX8_about 84 = .ok (.aload_n 0, 1) := by decide +kernel
theorem dX8_about_85 : decode cX8_about 85 = .ok (.getfield 19, 3) := by decide +kernel
theorem dX8_about_88 : decode cX8_about 88 = .ok (.getfield 106, 3) := by decide +kernel
theorem dX8_about_91 : decode cX8_about 91 = .ok (.ireturn, 1) := by decide +kernel
theorem dX8_about_92 : decode cX8_about 92 = .ok (.aload_n 0, 1) := by decide +kernel
theorem dX8_about_93 : decode cX8_about 93 = .ok (.getfield 19, 3) := by decide +kernel
theorem dX8_about_96 : decode cX8_about 96 = .ok (.invokevirtual 109, 3) := by decide +kernel
theorem dX8_about_99 : decode cX8_about 99 = .ok (.ireturn, 1) := by decide +kernel
theorem dX8_about_100 : decode cX8_about 100 = .ok (.aload_n 0, 1) := by decide +kernel
theorem dX8_about_101 : decode cX8_about 101 = .ok (.getfield 26, 3) := by decide +kernel
theorem dX8_about_104 : decode cX8_about 104 = .ok (.invokevirtual 112, 3) := by decide +kernel
theorem dX8_about_107 : decode cX8_about 107 = .ok (.ireturn, 1) := by decide +kernel
theorem dX8_about_108 : decode cX8_about 108 = .ok (.aload_n 0, 1) := by decide +kernel
theorem dX8_about_109 : decode cX8_about 109 = .ok (.getfield 19, 3) := by decide +kernel
theorem dX8_about_112 : decode cX8_about 112 = .ok (.aload_n 0, 1) := by decide +kernel
theorem dX8_about_113 : decode cX8_about 113 = .ok (.getfield 26, 3) := by decide +kernel
theorem dX8_about_116 : decode cX8_about 116 = .ok (.invokevirtual 115, 3) := by decide +kernel
theorem dX8_about_119 : decode cX8_about 119 = .ok (.ireturn, 1) := by decide +kernel
theorem dX8_about_120 : decode cX8_about 120 = .ok (.aload_n 0, 1) := by decide +kernel
theorem dX8_about_121 : decode cX8_about 121 = .ok (.getfield 19, 3) := by decide +kernel
theorem dX8_about_124 : decode cX8_about 124 = .ok (.getfield 119, 3) := by decide +kernel
theorem dX8_about_127 : decode cX8_about 127 = .ok (.ireturn, 1) := by decide +kernel
theorem dX8_about_128 : decode cX8_about 128 = .ok (.aload_n 0, 1) := by decide +kernel
theorem dX8_about_129 : decode cX8_about 129 = .ok (.getfield 39, 3) := by decide +kernel
theorem dX8_about_132 : decode cX8_about 132 = .ok (.invokevirtual 122, 3) := by decide +kernel
theorem dX8_about_135 : decode cX8_about 135 = .ok (.ireturn, 1) := by decide +kernel
theorem dX8_about_136 : decode cX8_about 136 = .ok (.aload_n 0, 1) := by decide +kernel
theorem dX8_about_137 : decode cX8_about 137 = .ok (.getfield 53, 3) := by decide +kernel
theorem dX8_about_140 : decode cX8_about 140 = .ok (.invokevirtual 125, 3) := by decide +kernel
theorem dX8_about_143 : decode cX8_about 143 = .ok (.ireturn, 1) := by decide +kernel
theorem dX8_about_144 : decode cX8_about 144 = .ok (.aload_n 0, 1) := by decide +kernel
theorem dX8_about_145 : decode cX8_about 145 = .ok (.getfield 10, 3) := by decide +kernel
theorem dX8_about_148 : decode cX8_about 148 = .ok (.invokevirtual 79, 3) := by decide +kernel
theorem dX8_about_151 : decode cX8_about 151 = .ok (.ireturn, 1) := by decide +kernel
theorem dX8_about_152 : decode cX8_about 152 = .ok (.bipush (-2), 2) := by decide +kernel
theorem dX8_about_154 : decode cX8_about 154 = .ok (.ireturn, 1) := by decide +kernel
theorem zd_X8_about : yX8_about.cls ≠ "java/lang/invoke/MethodHandle" ∧ yX8_about.cls ≠ "java/lang/invoke/VarHandle" ∧ (parseMethodDescriptor yX8_about.desc).map (fun d => d.parameters.length) = some 1 := by decide +kernel
set_option maxHeartbeats 4000000 in
set_option maxRecDepth 100000 in
theorem zc_X8_about (l : Launch) (D : va_G) (cI cZ : ClassId) (o : Nat) (tx : Nat) (r : Nat) (a : Nat) (r2 : Nat) (a2 : Nat) (x : Nat) (y : Nat) (z : Nat) (v : Nat) (h : Nat) (sd : Int64) (tb : Nat) (tt : Nat) (len : Nat) (at_ : Nat) (ft : Int32) (ro : Nat) (rn : Nat) (rr : Nat) (rt : Int32) (fr : Int32) (pr : Int32) (n : Nat) (m : Nat) (od : Nat → Int32) (b : Nat) (f : Nat → Int32) (xs : Nat) (cn : Nat) (nx : Nat) (zp : Nat) (zd : Nat) (cr : Nat) (kd : Int32) (su : Int32) (x1 : Int32) (hn : n ≤ 5) : zI l yX8_about cX8_about 2 .int 2 44 D cI cZ [.ref o, .int x1] [(o, .inr (8, [.ref tx, .ref r, .ref a, .ref r2, .ref a2, .ref x, .ref y, .ref z, .ref v, .ref h, .long sd])), (tx, .inr (7, [.ref tb, .ref tt, .int (nI len), .int (nI at_), .int ft])), (r, .inr (3, [.ref ro, .ref rn, .ref rr, .int rt, .int fr, .int pr, .int (nI n), .int (nI m)])), (ro, .inl (cI, 4, .inl od)), (a, .inr (6, [.ref b])), (b, .inl (cI, 36, .inl f)), (x, .inr (0, [.ref xs, .int (nI cn), .int (nI nx)])), (z, .inr (4, [.ref zp, .ref zd, .int (nI cr), .int ft, .int kd, .int su]))] (fun (r : Int32) (u : Unit) => r = zabt x1 (nI n) rt fr pr (zoa od 4) (f 35) (zdb f n) (nI m) (nI cn) (nI cr) (nI len)) (fun (u : Unit) => [(o, .inr (8, [.ref tx, .ref r, .ref a, .ref r2, .ref a2, .ref x, .ref y, .ref z, .ref v, .ref h, .long sd])), (tx, .inr (7, [.ref tb, .ref tt, .int (nI len), .int (nI at_), .int ft])), (r, .inr (3, [.ref ro, .ref rn, .ref rr, .int rt, .int fr, .int pr, .int (nI n), .int (nI m)])), (ro, .inl (cI, 4, .inl od)), (a, .inr (6, [.ref b])), (b, .inl (cI, 36, .inl f)), (x, .inr (0, [.ref xs, .int (nI cn), .int (nI nx)])), (z, .inr (4, [.ref zp, .ref zd, .int (nI cr), .int ft, .int kd, .int su]))]) := by
  refine zI_of (by decide) (Nat.le_of_ble_eq_true rfl) ?_
  intro pP eE sS mM aA bB mT cC A ls Z hP hD hS hl
  have hx := Z.1
  have hb := Z.2.1
  have hown := Z.2.2.2.2.2.1
  have hts := Z.2.2.2.2.1
  have Z : zAt pP sS mM aA mT cC D cI cZ A "SurpriseTax" cX8_about 2 (some .int) := Z
  have hl : lv_has ls 2 [(0, .ref o), (1, .int x1)] := hl
  obtain ⟨H, hH⟩ : ∃ H, H = sS.heap := ⟨_, rfl⟩
  have hP : va_P D vwCl [(o, .inr (8, [.ref tx, .ref r, .ref a, .ref r2, .ref a2, .ref x, .ref y, .ref z, .ref v, .ref h, .long sd])), (tx, .inr (7, [.ref tb, .ref tt, .int (nI len), .int (nI at_), .int ft])), (r, .inr (3, [.ref ro, .ref rn, .ref rr, .int rt, .int fr, .int pr, .int (nI n), .int (nI m)])), (ro, .inl (cI, 4, .inl od)), (a, .inr (6, [.ref b])), (b, .inl (cI, 36, .inl f)), (x, .inr (0, [.ref xs, .int (nI cn), .int (nI nx)])), (z, .inr (4, [.ref zp, .ref zd, .int (nI cr), .int ft, .int kd, .int su]))] H := by rw [hH]; exact hP
  have hS : va_S A sS.heap H [] := by rw [hH]; exact hS
  rw [← hH]
  clear hH
  obtain ⟨locs, hlo⟩ : ∃ q : List Loc, q = [] := ⟨_, rfl⟩
  rw [← hlo] at hS ⊢
  clear hlo
  refine lv_iload_n hx hb dX8_about_0 rfl (lv_at hl 1 rfl) ?_
  by_cases c_1 : x1 = 0
  · refine lv_tableIn (tgt := 60) hx hb dX8_about_1 (by rw [c_1]; decide) (by rw [c_1]; decide) (by rw [c_1]; rfl) (by decide) ?_
    refine lv_aload_n hx hb dX8_about_60 rfl (lv_at hl 0 rfl) ?_
    refine z_get (ci := 8) (v := .ref r) Z zin8 hP 0 rfl rfl 1 (by decide) zm175 rfl rfl dX8_about_61 ?_
    refine z_getN (ci := 3) (v := .int (nI n)) Z zin3 hP 2 rfl rfl 6 (by decide) zn18 rfl rfl dX8_about_64 ?_
    exact z_iret Z () (by unfold zabt; simp only [*, if_true, if_false]; first | rfl | (repeat (first | rw [if_pos (by decide)] | rw [if_neg (by decide)]))) hP hS dX8_about_67
  · skip
    by_cases c_2 : x1 = 1
    · refine lv_tableIn (tgt := 68) hx hb dX8_about_1 (by rw [c_2]; decide) (by rw [c_2]; decide) (by rw [c_2]; rfl) (by decide) ?_
      refine lv_aload_n hx hb dX8_about_68 rfl (lv_at hl 0 rfl) ?_
      refine z_get (ci := 8) (v := .ref r) Z zin8 hP 0 rfl rfl 1 (by decide) zm175 rfl rfl dX8_about_69 ?_
      refine z_getN (ci := 3) (v := .int rt) Z zin3 hP 2 rfl rfl 3 (by decide) zn9 rfl rfl dX8_about_72 ?_
      exact z_iret Z () (by unfold zabt; simp only [*, if_true, if_false]; first | rfl | (repeat (first | rw [if_pos (by decide)] | rw [if_neg (by decide)]))) hP hS dX8_about_75
    · skip
      by_cases c_3 : x1 = 2
      · refine lv_tableIn (tgt := 76) hx hb dX8_about_1 (by rw [c_3]; decide) (by rw [c_3]; decide) (by rw [c_3]; rfl) (by decide) ?_
        refine lv_aload_n hx hb dX8_about_76 rfl (lv_at hl 0 rfl) ?_
        refine z_get (ci := 8) (v := .ref r) Z zin8 hP 0 rfl rfl 1 (by decide) zm175 rfl rfl dX8_about_77 ?_
        refine z_getN (ci := 3) (v := .int fr) Z zin3 hP 2 rfl rfl 4 (by decide) zn12 rfl rfl dX8_about_80 ?_
        exact z_iret Z () (by unfold zabt; simp only [*, if_true, if_false]; first | rfl | (repeat (first | rw [if_pos (by decide)] | rw [if_neg (by decide)]))) hP hS dX8_about_83
      · skip
        by_cases c_4 : x1 = 3
        · refine lv_tableIn (tgt := 84) hx hb dX8_about_1 (by rw [c_4]; decide) (by rw [c_4]; decide) (by rw [c_4]; rfl) (by decide) ?_
          refine lv_aload_n hx hb dX8_about_84 rfl (lv_at hl 0 rfl) ?_
          refine z_get (ci := 8) (v := .ref r) Z zin8 hP 0 rfl rfl 1 (by decide) zm175 rfl rfl dX8_about_85 ?_
          refine z_getN (ci := 3) (v := .int pr) Z zin3 hP 2 rfl rfl 5 (by decide) zn15 rfl rfl dX8_about_88 ?_
          exact z_iret Z () (by unfold zabt; simp only [*, if_true, if_false]; first | rfl | (repeat (first | rw [if_pos (by decide)] | rw [if_neg (by decide)]))) hP hS dX8_about_91
        · skip
          by_cases c_5 : x1 = 4
          · refine lv_tableIn (tgt := 92) hx hb dX8_about_1 (by rw [c_5]; decide) (by rw [c_5]; decide) (by rw [c_5]; rfl) (by decide) ?_
            refine lv_aload_n hx hb dX8_about_92 rfl (lv_at hl 0 rfl) ?_
            refine z_get (ci := 8) (v := .ref r) Z zin8 hP 0 rfl rfl 1 (by decide) zm175 rfl rfl dX8_about_93 ?_
            refine z_callVi (As := []) (rest := []) (ci := 3) (k0 := 0) Z hP hD hS hl.1 (zc_X3_oddsAsFigures l D cI cZ r ro rn rr rt fr pr n m od ) zm301 zm302 zm303 zm32 zm304 ⟨rfl, zd_X3_oddsAsFigures⟩ ⟨Nat.le_of_ble_eq_true rfl, Nat.le_of_ble_eq_true rfl⟩ ⟨Nat.zero_le _, Nat.zero_le _⟩ [2, 3] rfl (by decide) rfl rfl rfl (fun _ => rfl) rfl (Nat.le_of_ble_eq_true rfl) rfl dX8_about_96 (fun r_6 u H locs h_7 hP hD hS => ?_)
            have hP : va_P D vwCl [(o, .inr (8, [.ref tx, .ref r, .ref a, .ref r2, .ref a2, .ref x, .ref y, .ref z, .ref v, .ref h, .long sd])), (tx, .inr (7, [.ref tb, .ref tt, .int (nI len), .int (nI at_), .int ft])), (r, .inr (3, [.ref ro, .ref rn, .ref rr, .int rt, .int fr, .int pr, .int (nI n), .int (nI m)])), (ro, .inl (cI, 4, .inl od)), (a, .inr (6, [.ref b])), (b, .inl (cI, 36, .inl f)), (x, .inr (0, [.ref xs, .int (nI cn), .int (nI nx)])), (z, .inr (4, [.ref zp, .ref zd, .int (nI cr), .int ft, .int kd, .int su]))] H := hP
            have hD : va_D A [(o, .inr (8, [.ref tx, .ref r, .ref a, .ref r2, .ref a2, .ref x, .ref y, .ref z, .ref v, .ref h, .long sd])), (tx, .inr (7, [.ref tb, .ref tt, .int (nI len), .int (nI at_), .int ft])), (r, .inr (3, [.ref ro, .ref rn, .ref rr, .int rt, .int fr, .int pr, .int (nI n), .int (nI m)])), (ro, .inl (cI, 4, .inl od)), (a, .inr (6, [.ref b])), (b, .inl (cI, 36, .inl f)), (x, .inr (0, [.ref xs, .int (nI cn), .int (nI nx)])), (z, .inr (4, [.ref zp, .ref zd, .int (nI cr), .int ft, .int kd, .int su]))] := hD
            have h_7 : r_6 = zoa od 4 := h_7
            subst h_7
            exact z_iret Z () (by unfold zabt; simp only [*, if_true, if_false]; first | rfl | (repeat (first | rw [if_pos (by decide)] | rw [if_neg (by decide)]))) hP hS dX8_about_99
          · skip
            by_cases c_8 : x1 = 5
            · refine lv_tableIn (tgt := 100) hx hb dX8_about_1 (by rw [c_8]; decide) (by rw [c_8]; decide) (by rw [c_8]; rfl) (by decide) ?_
              refine lv_aload_n hx hb dX8_about_100 rfl (lv_at hl 0 rfl) ?_
              refine z_get (ci := 8) (v := .ref a) Z zin8 hP 0 rfl rfl 2 (by decide) zm176 rfl rfl dX8_about_101 ?_
              refine z_callVi (As := []) (rest := []) (ci := 6) (k0 := 0) Z hP hD hS hl.1 (zc_X6_day l D cI cZ a b f ) zm305 zm306 zm307 zm33 zm308 ⟨rfl, zd_X6_day⟩ ⟨Nat.le_of_ble_eq_true rfl, Nat.le_of_ble_eq_true rfl⟩ ⟨Nat.zero_le _, Nat.zero_le _⟩ [4, 5] rfl (by decide) rfl rfl rfl (fun _ => rfl) rfl (Nat.le_of_ble_eq_true rfl) rfl dX8_about_104 (fun r_9 u H locs h_10 hP hD hS => ?_)
              have hP : va_P D vwCl [(o, .inr (8, [.ref tx, .ref r, .ref a, .ref r2, .ref a2, .ref x, .ref y, .ref z, .ref v, .ref h, .long sd])), (tx, .inr (7, [.ref tb, .ref tt, .int (nI len), .int (nI at_), .int ft])), (r, .inr (3, [.ref ro, .ref rn, .ref rr, .int rt, .int fr, .int pr, .int (nI n), .int (nI m)])), (ro, .inl (cI, 4, .inl od)), (a, .inr (6, [.ref b])), (b, .inl (cI, 36, .inl f)), (x, .inr (0, [.ref xs, .int (nI cn), .int (nI nx)])), (z, .inr (4, [.ref zp, .ref zd, .int (nI cr), .int ft, .int kd, .int su]))] H := hP
              have hD : va_D A [(o, .inr (8, [.ref tx, .ref r, .ref a, .ref r2, .ref a2, .ref x, .ref y, .ref z, .ref v, .ref h, .long sd])), (tx, .inr (7, [.ref tb, .ref tt, .int (nI len), .int (nI at_), .int ft])), (r, .inr (3, [.ref ro, .ref rn, .ref rr, .int rt, .int fr, .int pr, .int (nI n), .int (nI m)])), (ro, .inl (cI, 4, .inl od)), (a, .inr (6, [.ref b])), (b, .inl (cI, 36, .inl f)), (x, .inr (0, [.ref xs, .int (nI cn), .int (nI nx)])), (z, .inr (4, [.ref zp, .ref zd, .int (nI cr), .int ft, .int kd, .int su]))] := hD
              have h_10 : r_9 = f 35 := h_10
              subst h_10
              exact z_iret Z () (by unfold zabt; simp only [*, if_true, if_false]; first | rfl | (repeat (first | rw [if_pos (by decide)] | rw [if_neg (by decide)]))) hP hS dX8_about_107
            · skip
              by_cases c_11 : x1 = 6
              · refine lv_tableIn (tgt := 108) hx hb dX8_about_1 (by rw [c_11]; decide) (by rw [c_11]; decide) (by rw [c_11]; rfl) (by decide) ?_
                refine lv_aload_n hx hb dX8_about_108 rfl (lv_at hl 0 rfl) ?_
                refine z_get (ci := 8) (v := .ref r) Z zin8 hP 0 rfl rfl 1 (by decide) zm175 rfl rfl dX8_about_109 ?_
                refine lv_aload_n hx hb dX8_about_112 rfl (lv_at hl 0 rfl) ?_
                refine z_get (ci := 8) (v := .ref a) Z zin8 hP 0 rfl rfl 2 (by decide) zm176 rfl rfl dX8_about_113 ?_
                refine z_callVi (As := [.ref a]) (rest := []) (ci := 3) (k0 := 0) Z hP hD hS hl.1 (zc_X3_debtors l D cI cZ r ro rn rr rt fr pr n m a b f (by omega)) zm309 zm310 zm311 zm32 zm312 ⟨rfl, zd_X3_debtors⟩ ⟨Nat.le_of_ble_eq_true rfl, Nat.le_of_ble_eq_true rfl⟩ ⟨Nat.zero_le _, Nat.zero_le _⟩ [2, 4, 5] rfl (by decide) rfl rfl rfl (fun _ => rfl) rfl (Nat.le_of_ble_eq_true rfl) rfl dX8_about_116 (fun r_12 u H locs h_13 hP hD hS => ?_)
                have hP : va_P D vwCl [(o, .inr (8, [.ref tx, .ref r, .ref a, .ref r2, .ref a2, .ref x, .ref y, .ref z, .ref v, .ref h, .long sd])), (tx, .inr (7, [.ref tb, .ref tt, .int (nI len), .int (nI at_), .int ft])), (r, .inr (3, [.ref ro, .ref rn, .ref rr, .int rt, .int fr, .int pr, .int (nI n), .int (nI m)])), (ro, .inl (cI, 4, .inl od)), (a, .inr (6, [.ref b])), (b, .inl (cI, 36, .inl f)), (x, .inr (0, [.ref xs, .int (nI cn), .int (nI nx)])), (z, .inr (4, [.ref zp, .ref zd, .int (nI cr), .int ft, .int kd, .int su]))] H := hP
                have hD : va_D A [(o, .inr (8, [.ref tx, .ref r, .ref a, .ref r2, .ref a2, .ref x, .ref y, .ref z, .ref v, .ref h, .long sd])), (tx, .inr (7, [.ref tb, .ref tt, .int (nI len), .int (nI at_), .int ft])), (r, .inr (3, [.ref ro, .ref rn, .ref rr, .int rt, .int fr, .int pr, .int (nI n), .int (nI m)])), (ro, .inl (cI, 4, .inl od)), (a, .inr (6, [.ref b])), (b, .inl (cI, 36, .inl f)), (x, .inr (0, [.ref xs, .int (nI cn), .int (nI nx)])), (z, .inr (4, [.ref zp, .ref zd, .int (nI cr), .int ft, .int kd, .int su]))] := hD
                have h_13 : r_12 = zdb f n := h_13
                subst h_13
                exact z_iret Z () (by unfold zabt; simp only [*, if_true, if_false]; first | rfl | (repeat (first | rw [if_pos (by decide)] | rw [if_neg (by decide)]))) hP hS dX8_about_119
              · skip
                by_cases c_14 : x1 = 7
                · refine lv_tableIn (tgt := 120) hx hb dX8_about_1 (by rw [c_14]; decide) (by rw [c_14]; decide) (by rw [c_14]; rfl) (by decide) ?_
                  refine lv_aload_n hx hb dX8_about_120 rfl (lv_at hl 0 rfl) ?_
                  refine z_get (ci := 8) (v := .ref r) Z zin8 hP 0 rfl rfl 1 (by decide) zm175 rfl rfl dX8_about_121 ?_
                  refine z_getN (ci := 3) (v := .int (nI m)) Z zin3 hP 2 rfl rfl 7 (by decide) zn21 rfl rfl dX8_about_124 ?_
                  exact z_iret Z () (by unfold zabt; simp only [*, if_true, if_false]; first | rfl | (repeat (first | rw [if_pos (by decide)] | rw [if_neg (by decide)]))) hP hS dX8_about_127
                · skip
                  by_cases c_15 : x1 = 8
                  · refine lv_tableIn (tgt := 128) hx hb dX8_about_1 (by rw [c_15]; decide) (by rw [c_15]; decide) (by rw [c_15]; rfl) (by decide) ?_
                    refine lv_aload_n hx hb dX8_about_128 rfl (lv_at hl 0 rfl) ?_
                    refine z_get (ci := 8) (v := .ref x) Z zin8 hP 0 rfl rfl 5 (by decide) zm179 rfl rfl dX8_about_129 ?_
                    refine z_callVi (As := []) (rest := []) (ci := 0) (k0 := 0) Z hP hD hS hl.1 (zc_X0_count l D cI cZ x xs cn nx ) zm317 zm318 zm319 zm34 zm320 ⟨rfl, zd_X0_count⟩ ⟨Nat.le_of_ble_eq_true rfl, Nat.le_of_ble_eq_true rfl⟩ ⟨Nat.zero_le _, Nat.zero_le _⟩ [6] rfl (by decide) rfl rfl rfl (fun _ => rfl) rfl (Nat.le_of_ble_eq_true rfl) rfl dX8_about_132 (fun r_16 u H locs h_17 hP hD hS => ?_)
                    have hP : va_P D vwCl [(o, .inr (8, [.ref tx, .ref r, .ref a, .ref r2, .ref a2, .ref x, .ref y, .ref z, .ref v, .ref h, .long sd])), (tx, .inr (7, [.ref tb, .ref tt, .int (nI len), .int (nI at_), .int ft])), (r, .inr (3, [.ref ro, .ref rn, .ref rr, .int rt, .int fr, .int pr, .int (nI n), .int (nI m)])), (ro, .inl (cI, 4, .inl od)), (a, .inr (6, [.ref b])), (b, .inl (cI, 36, .inl f)), (x, .inr (0, [.ref xs, .int (nI cn), .int (nI nx)])), (z, .inr (4, [.ref zp, .ref zd, .int (nI cr), .int ft, .int kd, .int su]))] H := hP
                    have hD : va_D A [(o, .inr (8, [.ref tx, .ref r, .ref a, .ref r2, .ref a2, .ref x, .ref y, .ref z, .ref v, .ref h, .long sd])), (tx, .inr (7, [.ref tb, .ref tt, .int (nI len), .int (nI at_), .int ft])), (r, .inr (3, [.ref ro, .ref rn, .ref rr, .int rt, .int fr, .int pr, .int (nI n), .int (nI m)])), (ro, .inl (cI, 4, .inl od)), (a, .inr (6, [.ref b])), (b, .inl (cI, 36, .inl f)), (x, .inr (0, [.ref xs, .int (nI cn), .int (nI nx)])), (z, .inr (4, [.ref zp, .ref zd, .int (nI cr), .int ft, .int kd, .int su]))] := hD
                    have h_17 : r_16 = nI cn := h_17
                    subst h_17
                    exact z_iret Z () (by unfold zabt; simp only [*, if_true, if_false]; first | rfl | (repeat (first | rw [if_pos (by decide)] | rw [if_neg (by decide)]))) hP hS dX8_about_135
                  · skip
                    by_cases c_18 : x1 = 9
                    · refine lv_tableIn (tgt := 136) hx hb dX8_about_1 (by rw [c_18]; decide) (by rw [c_18]; decide) (by rw [c_18]; rfl) (by decide) ?_
                      refine lv_aload_n hx hb dX8_about_136 rfl (lv_at hl 0 rfl) ?_
                      refine z_get (ci := 8) (v := .ref z) Z zin8 hP 0 rfl rfl 7 (by decide) zm181 rfl rfl dX8_about_137 ?_
                      refine z_callVi (As := []) (rest := []) (ci := 4) (k0 := 0) Z hP hD hS hl.1 (zc_X4_count l D cI cZ z zp zd cr ft kd su ) zm321 zm322 zm323 zm36 zm324 ⟨rfl, zd_X4_count⟩ ⟨Nat.le_of_ble_eq_true rfl, Nat.le_of_ble_eq_true rfl⟩ ⟨Nat.zero_le _, Nat.zero_le _⟩ [7] rfl (by decide) rfl rfl rfl (fun _ => rfl) rfl (Nat.le_of_ble_eq_true rfl) rfl dX8_about_140 (fun r_19 u H locs h_20 hP hD hS => ?_)
                      have hP : va_P D vwCl [(o, .inr (8, [.ref tx, .ref r, .ref a, .ref r2, .ref a2, .ref x, .ref y, .ref z, .ref v, .ref h, .long sd])), (tx, .inr (7, [.ref tb, .ref tt, .int (nI len), .int (nI at_), .int ft])), (r, .inr (3, [.ref ro, .ref rn, .ref rr, .int rt, .int fr, .int pr, .int (nI n), .int (nI m)])), (ro, .inl (cI, 4, .inl od)), (a, .inr (6, [.ref b])), (b, .inl (cI, 36, .inl f)), (x, .inr (0, [.ref xs, .int (nI cn), .int (nI nx)])), (z, .inr (4, [.ref zp, .ref zd, .int (nI cr), .int ft, .int kd, .int su]))] H := hP
                      have hD : va_D A [(o, .inr (8, [.ref tx, .ref r, .ref a, .ref r2, .ref a2, .ref x, .ref y, .ref z, .ref v, .ref h, .long sd])), (tx, .inr (7, [.ref tb, .ref tt, .int (nI len), .int (nI at_), .int ft])), (r, .inr (3, [.ref ro, .ref rn, .ref rr, .int rt, .int fr, .int pr, .int (nI n), .int (nI m)])), (ro, .inl (cI, 4, .inl od)), (a, .inr (6, [.ref b])), (b, .inl (cI, 36, .inl f)), (x, .inr (0, [.ref xs, .int (nI cn), .int (nI nx)])), (z, .inr (4, [.ref zp, .ref zd, .int (nI cr), .int ft, .int kd, .int su]))] := hD
                      have h_20 : r_19 = nI cr := h_20
                      subst h_20
                      exact z_iret Z () (by unfold zabt; simp only [*, if_true, if_false]; first | rfl | (repeat (first | rw [if_pos (by decide)] | rw [if_neg (by decide)]))) hP hS dX8_about_143
                    · skip
                      by_cases c_21 : x1 = 10
                      · refine lv_tableIn (tgt := 144) hx hb dX8_about_1 (by rw [c_21]; decide) (by rw [c_21]; decide) (by rw [c_21]; rfl) (by decide) ?_
                        refine lv_aload_n hx hb dX8_about_144 rfl (lv_at hl 0 rfl) ?_
                        refine z_get (ci := 8) (v := .ref tx) Z zin8 hP 0 rfl rfl 0 (by decide) zm174 rfl rfl dX8_about_145 ?_
                        refine z_callVi (As := []) (rest := []) (ci := 7) (k0 := 0) Z hP hD hS hl.1 (zc_X7_length l D cI cZ tx tb tt len at_ ft ) zm200 zm201 zm202 zm31 zm203 ⟨rfl, zd_X7_length⟩ ⟨Nat.le_of_ble_eq_true rfl, Nat.le_of_ble_eq_true rfl⟩ ⟨Nat.zero_le _, Nat.zero_le _⟩ [1] rfl (by decide) rfl rfl rfl (fun _ => rfl) rfl (Nat.le_of_ble_eq_true rfl) rfl dX8_about_148 (fun r_22 u H locs h_23 hP hD hS => ?_)
                        have hP : va_P D vwCl [(o, .inr (8, [.ref tx, .ref r, .ref a, .ref r2, .ref a2, .ref x, .ref y, .ref z, .ref v, .ref h, .long sd])), (tx, .inr (7, [.ref tb, .ref tt, .int (nI len), .int (nI at_), .int ft])), (r, .inr (3, [.ref ro, .ref rn, .ref rr, .int rt, .int fr, .int pr, .int (nI n), .int (nI m)])), (ro, .inl (cI, 4, .inl od)), (a, .inr (6, [.ref b])), (b, .inl (cI, 36, .inl f)), (x, .inr (0, [.ref xs, .int (nI cn), .int (nI nx)])), (z, .inr (4, [.ref zp, .ref zd, .int (nI cr), .int ft, .int kd, .int su]))] H := hP
                        have hD : va_D A [(o, .inr (8, [.ref tx, .ref r, .ref a, .ref r2, .ref a2, .ref x, .ref y, .ref z, .ref v, .ref h, .long sd])), (tx, .inr (7, [.ref tb, .ref tt, .int (nI len), .int (nI at_), .int ft])), (r, .inr (3, [.ref ro, .ref rn, .ref rr, .int rt, .int fr, .int pr, .int (nI n), .int (nI m)])), (ro, .inl (cI, 4, .inl od)), (a, .inr (6, [.ref b])), (b, .inl (cI, 36, .inl f)), (x, .inr (0, [.ref xs, .int (nI cn), .int (nI nx)])), (z, .inr (4, [.ref zp, .ref zd, .int (nI cr), .int ft, .int kd, .int su]))] := hD
                        have h_23 : r_22 = nI len := h_23
                        subst h_23
                        exact z_iret Z () (by unfold zabt; simp only [*, if_true, if_false]; first | rfl | (repeat (first | rw [if_pos (by decide)] | rw [if_neg (by decide)]))) hP hS dX8_about_151
                      · skip
                        refine lv_tableOut (tgt := 152) hx hb dX8_about_1 (by exact z_out0_10 c_1 c_2 c_3 c_4 c_5 c_8 c_11 c_14 c_15 c_18 c_21) (by decide) ?_
                        refine lv_bipush (v := -2) hx hb dX8_about_152 (by decide) ?_
                        exact z_iret Z () (by unfold zabt; simp only [*, if_true, if_false]; first | rfl | (repeat (first | rw [if_pos (by decide)] | rw [if_neg (by decide)]))) hP hS dX8_about_154

theorem dX8_person_0 : decode cX8_person 0 = .ok (.aload_n 0, 1) := by decide +kernel
theorem dX8_person_1 : decode cX8_person 1 = .ok (.getfield 19, 3) := by decide +kernel
theorem dX8_person_4 : decode cX8_person 4 = .ok (.iload_n 1, 1) := by decide +kernel
theorem dX8_person_5 : decode cX8_person 5 = .ok (.invokevirtual 126, 3) := by decide +kernel
theorem dX8_person_8 : decode cX8_person 8 = .ok (.ifCond .ne 5, 3) := by decide +kernel
theorem dX8_person_11 : decode cX8_person 11 = .ok (.iconst (-1), 1) := by decide +kernel
theorem dX8_person_12 : decode cX8_person 12 = .ok (.ireturn, 1) := by decide +kernel
theorem dX8_person_13 : decode cX8_person 13 = .ok (.iload_n 2, 1) := by decide +kernel
theorem dX8_person_14 : decode cX8_person 14 = .ok (.invokestatic 130, 3) := by decide +kernel
theorem dX8_person_17 : decode cX8_person 17 = .ok (.ifCond .eq 13, 3) := by decide +kernel
theorem dX8_person_20 : decode cX8_person 20 = .ok (.aload_n 0, 1) := by decide +kernel
theorem dX8_person_21 : decode cX8_person 21 = .ok (.getfield 26, 3) := by decide +kernel
theorem dX8_person_24 : decode cX8_person 24 = .ok (.iload_n 1, 1) := by decide +kernel
theorem dX8_person_25 : decode cX8_person 25 = .ok (.iload_n 2, 1) := by decide +kernel
theorem dX8_person_26 : decode cX8_person 26 = .ok (.invokevirtual 133, 3) := by decide +kernel
theorem dX8_person_29 : decode cX8_person 29 = .ok (.ireturn, 1) := by decide +kernel
theorem dX8_person_30 : decode cX8_person 30 = .ok (.iload_n 2, 1) := by decide +kernel
theorem dX8_person_31 : decode cX8_person 31 = .ok (.tableswitch 83 4 8 #[33, 45, 55, 64, 73], 33) := by decide +kernel
theorem dX8_person_64 : decode cX8_person 64 = .ok (.aload_n 0, 1) := by decide +kernel
theorem dX8_person_65 : decode cX8_person 65 = .ok (.getfield 26, 3) := by decide +kernel
theorem dX8_person_68 : decode cX8_person 68 = .ok (.iload_n 1, 1) := by decide +kernel
theorem dX8_person_69 : decode cX8_person 69 = .ok (.invokevirtual 137, 3) := by decide +kernel
theorem dX8_person_72 : decode cX8_person 72 = .ok (.ldc 141, 2) := by decide +kernel
theorem dX8_person_74 : decode cX8_person 74 = .ok (.iadd, 1) := by decide +kernel
theorem dX8_person_75 : decode cX8_person 75 = .ok (.ireturn, 1) := by decide +kernel
theorem dX8_person_76 : decode cX8_person 76 = .ok (.aload_n 0, 1) := by decide +kernel
theorem dX8_person_77 : decode cX8_person 77 = .ok (.getfield 19, 3) := by decide +kernel
theorem dX8_person_80 : decode cX8_person 80 = .ok (.getfield 142, 3) := by decide +kernel
theorem dX8_person_83 : decode cX8_person 83 = .ok (.iload_n 1, 1) := by decide +kernel
theorem dX8_person_84 : decode cX8_person 84 = .ok (.iaload, 1) := by decide +kernel
theorem dX8_person_85 : decode cX8_person 85 = .ok (.ireturn, 1) := by decide +kernel
theorem dX8_person_86 : decode cX8_person 86 = .ok (.aload_n 0, 1) := by decide +kernel
theorem dX8_person_87 : decode cX8_person 87 = .ok (.getfield 26, 3) := by decide +kernel
theorem dX8_person_90 : decode cX8_person 90 = .ok (.iload_n 1, 1) := by decide +kernel
theorem dX8_person_91 : decode cX8_person 91 = .ok (.invokevirtual 145, 3) := by decide +kernel
theorem dX8_person_94 : decode cX8_person 94 = .ok (.ireturn, 1) := by decide +kernel
theorem dX8_person_95 : decode cX8_person 95 = .ok (.aload_n 0, 1) := by decide +kernel
theorem dX8_person_96 : decode cX8_person 96 = .ok (.getfield 26, 3) := by decide +kernel
theorem dX8_person_99 : decode cX8_person 99 = .ok (.iload_n 1, 1) := by decide +kernel
theorem dX8_person_100 : decode cX8_person 100 = .ok (.invokevirtual 148, 3) := by decide +kernel
theorem dX8_person_103 : decode cX8_person 103 = .ok (.ireturn, 1) := by decide +kernel
theorem dX8_person_104 : decode cX8_person 104 = .ok (.aload_n 0, 1) := by decide +kernel
theorem dX8_person_105 : decode cX8_person 105 = .ok (.getfield 19, 3) := by decide +kernel
theorem dX8_person_108 : decode cX8_person 108 = .ok (.getfield 151, 3) := by decide +kernel
theorem dX8_person_111 : decode cX8_person 111 = .ok (.iload_n 1, 1) := by decide +kernel
theorem dX8_person_112 : decode cX8_person 112 = .ok (.iaload, 1) := by decide +kernel
theorem dX8_person_113 : decode cX8_person 113 = .ok (.ireturn, 1) := by decide +kernel
theorem dX8_person_114 : decode cX8_person 114 = .ok (.bipush (-2), 2) := by decide +kernel
theorem dX8_person_116 : decode cX8_person 116 = .ok (.ireturn, 1) := by decide +kernel
theorem zd_X8_person : yX8_person.cls ≠ "java/lang/invoke/MethodHandle" ∧ yX8_person.cls ≠ "java/lang/invoke/VarHandle" ∧ (parseMethodDescriptor yX8_person.desc).map (fun d => d.parameters.length) = some 2 := by decide +kernel
set_option maxHeartbeats 4000000 in
set_option maxRecDepth 100000 in
theorem zc_X8_person (l : Launch) (D : va_G) (cI cZ : ClassId) (o : Nat) (tx : Nat) (r : Nat) (a : Nat) (r2 : Nat) (a2 : Nat) (x : Nat) (y : Nat) (z : Nat) (v : Nat) (h : Nat) (sd : Int64) (ro : Nat) (rn : Nat) (rr : Nat) (rt : Int32) (fr : Int32) (pr : Int32) (n : Nat) (m : Nat) (nv : Nat → Int32) (rd : Nat → Int32) (b : Nat) (f : Nat → Int32) (x1 : Int32) (x2 : Int32) (hn : n ≤ 5) : zI l yX8_person cX8_person 3 .int 1 22 D cI cZ [.ref o, .int x1, .int x2] [(o, .inr (8, [.ref tx, .ref r, .ref a, .ref r2, .ref a2, .ref x, .ref y, .ref z, .ref v, .ref h, .long sd])), (r, .inr (3, [.ref ro, .ref rn, .ref rr, .int rt, .int fr, .int pr, .int (nI n), .int (nI m)])), (rn, .inl (cI, 5, .inl nv)), (rr, .inl (cI, 5, .inl rd)), (a, .inr (6, [.ref b])), (b, .inl (cI, 36, .inl f))] (fun (r : Int32) (u : Unit) => r = zPa n x1 (fun p => zprs f nv rd p x2) (-1)) (fun (u : Unit) => [(o, .inr (8, [.ref tx, .ref r, .ref a, .ref r2, .ref a2, .ref x, .ref y, .ref z, .ref v, .ref h, .long sd])), (r, .inr (3, [.ref ro, .ref rn, .ref rr, .int rt, .int fr, .int pr, .int (nI n), .int (nI m)])), (rn, .inl (cI, 5, .inl nv)), (rr, .inl (cI, 5, .inl rd)), (a, .inr (6, [.ref b])), (b, .inl (cI, 36, .inl f))]) := by
  refine zI_of (by decide) (Nat.le_of_ble_eq_true rfl) ?_
  intro pP eE sS mM aA bB mT cC A ls Z hP hD hS hl
  have hx := Z.1
  have hb := Z.2.1
  have hown := Z.2.2.2.2.2.1
  have hts := Z.2.2.2.2.1
  have Z : zAt pP sS mM aA mT cC D cI cZ A "SurpriseTax" cX8_person 3 (some .int) := Z
  have hl : lv_has ls 3 [(0, .ref o), (1, .int x1), (2, .int x2)] := hl
  obtain ⟨H, hH⟩ : ∃ H, H = sS.heap := ⟨_, rfl⟩
  have hP : va_P D vwCl [(o, .inr (8, [.ref tx, .ref r, .ref a, .ref r2, .ref a2, .ref x, .ref y, .ref z, .ref v, .ref h, .long sd])), (r, .inr (3, [.ref ro, .ref rn, .ref rr, .int rt, .int fr, .int pr, .int (nI n), .int (nI m)])), (rn, .inl (cI, 5, .inl nv)), (rr, .inl (cI, 5, .inl rd)), (a, .inr (6, [.ref b])), (b, .inl (cI, 36, .inl f))] H := by rw [hH]; exact hP
  have hS : va_S A sS.heap H [] := by rw [hH]; exact hS
  rw [← hH]
  clear hH
  obtain ⟨locs, hlo⟩ : ∃ q : List Loc, q = [] := ⟨_, rfl⟩
  rw [← hlo] at hS ⊢
  clear hlo
  refine lv_aload_n hx hb dX8_person_0 rfl (lv_at hl 0 rfl) ?_
  refine z_get (ci := 8) (v := .ref r) Z zin8 hP 0 rfl rfl 1 (by decide) zm175 rfl rfl dX8_person_1 ?_
  refine lv_iload_n hx hb dX8_person_4 rfl (lv_at hl 1 rfl) ?_
  refine z_callVi (As := [.int x1]) (rest := []) (ci := 3) (k0 := 0) Z hP hD hS hl.1 (zc_X3_has l D cI cZ r ro rn rr rt fr pr n m x1 ) zm329 zm270 zm271 zm32 zm272 ⟨rfl, zd_X3_has⟩ ⟨Nat.le_of_ble_eq_true rfl, Nat.le_of_ble_eq_true rfl⟩ ⟨Nat.zero_le _, Nat.zero_le _⟩ [1] rfl (by decide) rfl rfl rfl (fun _ => rfl) rfl (Nat.le_of_ble_eq_true rfl) rfl dX8_person_5 (fun r_1 u H locs h_2 hP hD hS => ?_)
  have hP : va_P D vwCl [(o, .inr (8, [.ref tx, .ref r, .ref a, .ref r2, .ref a2, .ref x, .ref y, .ref z, .ref v, .ref h, .long sd])), (r, .inr (3, [.ref ro, .ref rn, .ref rr, .int rt, .int fr, .int pr, .int (nI n), .int (nI m)])), (rn, .inl (cI, 5, .inl nv)), (rr, .inl (cI, 5, .inl rd)), (a, .inr (6, [.ref b])), (b, .inl (cI, 36, .inl f))] H := hP
  have hD : va_D A [(o, .inr (8, [.ref tx, .ref r, .ref a, .ref r2, .ref a2, .ref x, .ref y, .ref z, .ref v, .ref h, .long sd])), (r, .inr (3, [.ref ro, .ref rn, .ref rr, .int rt, .int fr, .int pr, .int (nI n), .int (nI m)])), (rn, .inl (cI, 5, .inl nv)), (rr, .inl (cI, 5, .inl rd)), (a, .inr (6, [.ref b])), (b, .inl (cI, 36, .inl f))] := hD
  have h_2 : r_1 = if zhas n x1 then 1 else 0 := h_2
  subst h_2
  refine lv_if_ne (tgt := 13) hx hb dX8_person_8 (by decide) (fun c_3 => ?_) (fun c_3 => ?_)
  · have c_3 := zb1 c_3
    obtain ⟨p, hp, rfl⟩ := zhas_of (by omega) c_3
    refine lv_iload_n hx hb dX8_person_13 rfl (lv_at hl 2 rfl) ?_
    refine z_callSi (As := [.int x2]) (rest := []) Z hP hD hS hl.1 (zc_X8_isKind l D cI cZ x2 ) zm330 zm331 zm30 zm332 zd_X8_isKind ⟨Nat.le_of_ble_eq_true rfl, Nat.le_of_ble_eq_true rfl⟩ ⟨Nat.zero_le _, Nat.zero_le _⟩ [] rfl (by decide) (fun _ => rfl) rfl (Nat.le_of_ble_eq_true rfl) rfl dX8_person_14 (fun r_4 u H locs h_5 hP hD hS => ?_)
    have hP : va_P D vwCl [(o, .inr (8, [.ref tx, .ref r, .ref a, .ref r2, .ref a2, .ref x, .ref y, .ref z, .ref v, .ref h, .long sd])), (r, .inr (3, [.ref ro, .ref rn, .ref rr, .int rt, .int fr, .int pr, .int (nI n), .int (nI m)])), (rn, .inl (cI, 5, .inl nv)), (rr, .inl (cI, 5, .inl rd)), (a, .inr (6, [.ref b])), (b, .inl (cI, 36, .inl f))] H := hP
    have hD : va_D A [(o, .inr (8, [.ref tx, .ref r, .ref a, .ref r2, .ref a2, .ref x, .ref y, .ref z, .ref v, .ref h, .long sd])), (r, .inr (3, [.ref ro, .ref rn, .ref rr, .int rt, .int fr, .int pr, .int (nI n), .int (nI m)])), (rn, .inl (cI, 5, .inl nv)), (rr, .inl (cI, 5, .inl rd)), (a, .inr (6, [.ref b])), (b, .inl (cI, 36, .inl f))] := hD
    have h_5 : r_4 = if zkind x2 then 1 else 0 := h_5
    subst h_5
    refine lv_if_eq (tgt := 30) hx hb dX8_person_17 (by decide) (fun c_6 => ?_) (fun c_6 => ?_)
    · have c_6 := zb0 c_6
      refine lv_iload_n hx hb dX8_person_30 rfl (lv_at hl 2 rfl) ?_
      by_cases c_7 : x2 = 4
      · refine lv_tableIn (tgt := 64) hx hb dX8_person_31 (by rw [c_7]; decide) (by rw [c_7]; decide) (by rw [c_7]; rfl) (by decide) ?_
        refine lv_aload_n hx hb dX8_person_64 rfl (lv_at hl 0 rfl) ?_
        refine z_get (ci := 8) (v := .ref a) Z zin8 hP 0 rfl rfl 2 (by decide) zm176 rfl rfl dX8_person_65 ?_
        refine lv_iload_n hx hb dX8_person_68 rfl (lv_at hl 1 rfl) ?_
        refine z_callVi (As := [.int (nI p)]) (rest := []) (ci := 6) (k0 := 0) Z hP hD hS hl.1 (zc_X6_coins l D cI cZ a b f p (by omega)) zm337 zm314 zm315 zm33 zm316 ⟨rfl, zd_X6_coins⟩ ⟨Nat.le_of_ble_eq_true rfl, Nat.le_of_ble_eq_true rfl⟩ ⟨Nat.zero_le _, Nat.zero_le _⟩ [4, 5] rfl (by decide) rfl rfl rfl (fun _ => rfl) rfl (Nat.le_of_ble_eq_true rfl) rfl dX8_person_69 (fun r_8 u H locs h_9 hP hD hS => ?_)
        have hP : va_P D vwCl [(o, .inr (8, [.ref tx, .ref r, .ref a, .ref r2, .ref a2, .ref x, .ref y, .ref z, .ref v, .ref h, .long sd])), (r, .inr (3, [.ref ro, .ref rn, .ref rr, .int rt, .int fr, .int pr, .int (nI n), .int (nI m)])), (rn, .inl (cI, 5, .inl nv)), (rr, .inl (cI, 5, .inl rd)), (a, .inr (6, [.ref b])), (b, .inl (cI, 36, .inl f))] H := hP
        have hD : va_D A [(o, .inr (8, [.ref tx, .ref r, .ref a, .ref r2, .ref a2, .ref x, .ref y, .ref z, .ref v, .ref h, .long sd])), (r, .inr (3, [.ref ro, .ref rn, .ref rr, .int rt, .int fr, .int pr, .int (nI n), .int (nI m)])), (rn, .inl (cI, 5, .inl nv)), (rr, .inl (cI, 5, .inl rd)), (a, .inr (6, [.ref b])), (b, .inl (cI, 36, .inl f))] := hD
        have h_9 : r_8 = f (20 + p) := h_9
        subst h_9
        refine lv_ldc (v := 100000) hx hb hown (hts _ zm338) dX8_person_72 ?_
        refine lv_iadd hx hb dX8_person_74 ?_
        refine z_top (y := (f (20 + p)) + 100000) rfl ?_
        exact z_iret Z () (by first | rw [zPa_n (by assumption)] | (rw [zPa_y hp hn]; unfold zprs; rw [zKa_y hk]) | (rw [zPa_y hp hn]; unfold zprs; rw [zKa_n (by assumption)]; first | (rw [if_pos (by assumption)]) | (rw [if_neg (by assumption), if_pos (by assumption)]) | (rw [if_neg (by assumption), if_neg (by assumption), if_pos (by assumption)]) | (rw [if_neg (by assumption), if_neg (by assumption), if_neg (by assumption), if_pos (by assumption)]) | (rw [if_neg (by assumption), if_neg (by assumption), if_neg (by assumption), if_neg (by assumption), if_pos (by assumption)]) | (rw [if_neg (by assumption), if_neg (by assumption), if_neg (by assumption), if_neg (by assumption), if_neg (by assumption)]))) hP hS dX8_person_75
      · skip
        by_cases c_10 : x2 = 5
        · refine lv_tableIn (tgt := 76) hx hb dX8_person_31 (by rw [c_10]; decide) (by rw [c_10]; decide) (by rw [c_10]; rfl) (by decide) ?_
          refine lv_aload_n hx hb dX8_person_76 rfl (lv_at hl 0 rfl) ?_
          refine z_get (ci := 8) (v := .ref r) Z zin8 hP 0 rfl rfl 1 (by decide) zm175 rfl rfl dX8_person_77 ?_
          refine z_getN (ci := 3) (v := .ref rn) Z zin3 hP 1 rfl rfl 1 (by decide) zn5 rfl rfl dX8_person_80 ?_
          refine lv_iload_n hx hb dX8_person_83 rfl (lv_at hl 1 rfl) ?_
          refine z_iald (n := 5) (f := nv) (j := p) Z hP 2 rfl (by omega) (by decide) dX8_person_84 ?_
          exact z_iret Z () (by first | rw [zPa_n (by assumption)] | (rw [zPa_y hp hn]; unfold zprs; rw [zKa_y hk]) | (rw [zPa_y hp hn]; unfold zprs; rw [zKa_n (by assumption)]; first | (rw [if_pos (by assumption)]) | (rw [if_neg (by assumption), if_pos (by assumption)]) | (rw [if_neg (by assumption), if_neg (by assumption), if_pos (by assumption)]) | (rw [if_neg (by assumption), if_neg (by assumption), if_neg (by assumption), if_pos (by assumption)]) | (rw [if_neg (by assumption), if_neg (by assumption), if_neg (by assumption), if_neg (by assumption), if_pos (by assumption)]) | (rw [if_neg (by assumption), if_neg (by assumption), if_neg (by assumption), if_neg (by assumption), if_neg (by assumption)]))) hP hS dX8_person_85
        · skip
          by_cases c_11 : x2 = 6
          · refine lv_tableIn (tgt := 86) hx hb dX8_person_31 (by rw [c_11]; decide) (by rw [c_11]; decide) (by rw [c_11]; rfl) (by decide) ?_
            refine lv_aload_n hx hb dX8_person_86 rfl (lv_at hl 0 rfl) ?_
            refine z_get (ci := 8) (v := .ref a) Z zin8 hP 0 rfl rfl 2 (by decide) zm176 rfl rfl dX8_person_87 ?_
            refine lv_iload_n hx hb dX8_person_90 rfl (lv_at hl 1 rfl) ?_
            refine z_callVi (As := [.int (nI p)]) (rest := []) (ci := 6) (k0 := 0) Z hP hD hS hl.1 (zc_X6_declared l D cI cZ a b f p (by omega)) zm339 zm340 zm341 zm33 zm342 ⟨rfl, zd_X6_declared⟩ ⟨Nat.le_of_ble_eq_true rfl, Nat.le_of_ble_eq_true rfl⟩ ⟨Nat.zero_le _, Nat.zero_le _⟩ [4, 5] rfl (by decide) rfl rfl rfl (fun _ => rfl) rfl (Nat.le_of_ble_eq_true rfl) rfl dX8_person_91 (fun r_12 u H locs h_13 hP hD hS => ?_)
            have hP : va_P D vwCl [(o, .inr (8, [.ref tx, .ref r, .ref a, .ref r2, .ref a2, .ref x, .ref y, .ref z, .ref v, .ref h, .long sd])), (r, .inr (3, [.ref ro, .ref rn, .ref rr, .int rt, .int fr, .int pr, .int (nI n), .int (nI m)])), (rn, .inl (cI, 5, .inl nv)), (rr, .inl (cI, 5, .inl rd)), (a, .inr (6, [.ref b])), (b, .inl (cI, 36, .inl f))] H := hP
            have hD : va_D A [(o, .inr (8, [.ref tx, .ref r, .ref a, .ref r2, .ref a2, .ref x, .ref y, .ref z, .ref v, .ref h, .long sd])), (r, .inr (3, [.ref ro, .ref rn, .ref rr, .int rt, .int fr, .int pr, .int (nI n), .int (nI m)])), (rn, .inl (cI, 5, .inl nv)), (rr, .inl (cI, 5, .inl rd)), (a, .inr (6, [.ref b])), (b, .inl (cI, 36, .inl f))] := hD
            have h_13 : r_12 = f (25 + p) := h_13
            subst h_13
            exact z_iret Z () (by first | rw [zPa_n (by assumption)] | (rw [zPa_y hp hn]; unfold zprs; rw [zKa_y hk]) | (rw [zPa_y hp hn]; unfold zprs; rw [zKa_n (by assumption)]; first | (rw [if_pos (by assumption)]) | (rw [if_neg (by assumption), if_pos (by assumption)]) | (rw [if_neg (by assumption), if_neg (by assumption), if_pos (by assumption)]) | (rw [if_neg (by assumption), if_neg (by assumption), if_neg (by assumption), if_pos (by assumption)]) | (rw [if_neg (by assumption), if_neg (by assumption), if_neg (by assumption), if_neg (by assumption), if_pos (by assumption)]) | (rw [if_neg (by assumption), if_neg (by assumption), if_neg (by assumption), if_neg (by assumption), if_neg (by assumption)]))) hP hS dX8_person_94
          · skip
            by_cases c_14 : x2 = 7
            · refine lv_tableIn (tgt := 95) hx hb dX8_person_31 (by rw [c_14]; decide) (by rw [c_14]; decide) (by rw [c_14]; rfl) (by decide) ?_
              refine lv_aload_n hx hb dX8_person_95 rfl (lv_at hl 0 rfl) ?_
              refine z_get (ci := 8) (v := .ref a) Z zin8 hP 0 rfl rfl 2 (by decide) zm176 rfl rfl dX8_person_96 ?_
              refine lv_iload_n hx hb dX8_person_99 rfl (lv_at hl 1 rfl) ?_
              refine z_callVi (As := [.int (nI p)]) (rest := []) (ci := 6) (k0 := 0) Z hP hD hS hl.1 (zc_X6_heard l D cI cZ a b f p (by omega)) zm343 zm344 zm345 zm33 zm346 ⟨rfl, zd_X6_heard⟩ ⟨Nat.le_of_ble_eq_true rfl, Nat.le_of_ble_eq_true rfl⟩ ⟨Nat.zero_le _, Nat.zero_le _⟩ [4, 5] rfl (by decide) rfl rfl rfl (fun _ => rfl) rfl (Nat.le_of_ble_eq_true rfl) rfl dX8_person_100 (fun r_15 u H locs h_16 hP hD hS => ?_)
              have hP : va_P D vwCl [(o, .inr (8, [.ref tx, .ref r, .ref a, .ref r2, .ref a2, .ref x, .ref y, .ref z, .ref v, .ref h, .long sd])), (r, .inr (3, [.ref ro, .ref rn, .ref rr, .int rt, .int fr, .int pr, .int (nI n), .int (nI m)])), (rn, .inl (cI, 5, .inl nv)), (rr, .inl (cI, 5, .inl rd)), (a, .inr (6, [.ref b])), (b, .inl (cI, 36, .inl f))] H := hP
              have hD : va_D A [(o, .inr (8, [.ref tx, .ref r, .ref a, .ref r2, .ref a2, .ref x, .ref y, .ref z, .ref v, .ref h, .long sd])), (r, .inr (3, [.ref ro, .ref rn, .ref rr, .int rt, .int fr, .int pr, .int (nI n), .int (nI m)])), (rn, .inl (cI, 5, .inl nv)), (rr, .inl (cI, 5, .inl rd)), (a, .inr (6, [.ref b])), (b, .inl (cI, 36, .inl f))] := hD
              have h_16 : r_15 = f (30 + p) := h_16
              subst h_16
              exact z_iret Z () (by first | rw [zPa_n (by assumption)] | (rw [zPa_y hp hn]; unfold zprs; rw [zKa_y hk]) | (rw [zPa_y hp hn]; unfold zprs; rw [zKa_n (by assumption)]; first | (rw [if_pos (by assumption)]) | (rw [if_neg (by assumption), if_pos (by assumption)]) | (rw [if_neg (by assumption), if_neg (by assumption), if_pos (by assumption)]) | (rw [if_neg (by assumption), if_neg (by assumption), if_neg (by assumption), if_pos (by assumption)]) | (rw [if_neg (by assumption), if_neg (by assumption), if_neg (by assumption), if_neg (by assumption), if_pos (by assumption)]) | (rw [if_neg (by assumption), if_neg (by assumption), if_neg (by assumption), if_neg (by assumption), if_neg (by assumption)]))) hP hS dX8_person_103
            · skip
              by_cases c_17 : x2 = 8
              · refine lv_tableIn (tgt := 104) hx hb dX8_person_31 (by rw [c_17]; decide) (by rw [c_17]; decide) (by rw [c_17]; rfl) (by decide) ?_
                refine lv_aload_n hx hb dX8_person_104 rfl (lv_at hl 0 rfl) ?_
                refine z_get (ci := 8) (v := .ref r) Z zin8 hP 0 rfl rfl 1 (by decide) zm175 rfl rfl dX8_person_105 ?_
                refine z_getN (ci := 3) (v := .ref rr) Z zin3 hP 1 rfl rfl 2 (by decide) zn7 rfl rfl dX8_person_108 ?_
                refine lv_iload_n hx hb dX8_person_111 rfl (lv_at hl 1 rfl) ?_
                refine z_iald (n := 5) (f := rd) (j := p) Z hP 3 rfl (by omega) (by decide) dX8_person_112 ?_
                exact z_iret Z () (by first | rw [zPa_n (by assumption)] | (rw [zPa_y hp hn]; unfold zprs; rw [zKa_y hk]) | (rw [zPa_y hp hn]; unfold zprs; rw [zKa_n (by assumption)]; first | (rw [if_pos (by assumption)]) | (rw [if_neg (by assumption), if_pos (by assumption)]) | (rw [if_neg (by assumption), if_neg (by assumption), if_pos (by assumption)]) | (rw [if_neg (by assumption), if_neg (by assumption), if_neg (by assumption), if_pos (by assumption)]) | (rw [if_neg (by assumption), if_neg (by assumption), if_neg (by assumption), if_neg (by assumption), if_pos (by assumption)]) | (rw [if_neg (by assumption), if_neg (by assumption), if_neg (by assumption), if_neg (by assumption), if_neg (by assumption)]))) hP hS dX8_person_113
              · skip
                refine lv_tableOut (tgt := 114) hx hb dX8_person_31 (by exact z_out4_8 c_7 c_10 c_11 c_14 c_17) (by decide) ?_
                refine lv_bipush (v := -2) hx hb dX8_person_114 (by decide) ?_
                exact z_iret Z () (by first | rw [zPa_n (by assumption)] | (rw [zPa_y hp hn]; unfold zprs; rw [zKa_y hk]) | (rw [zPa_y hp hn]; unfold zprs; rw [zKa_n (by assumption)]; first | (rw [if_pos (by assumption)]) | (rw [if_neg (by assumption), if_pos (by assumption)]) | (rw [if_neg (by assumption), if_neg (by assumption), if_pos (by assumption)]) | (rw [if_neg (by assumption), if_neg (by assumption), if_neg (by assumption), if_pos (by assumption)]) | (rw [if_neg (by assumption), if_neg (by assumption), if_neg (by assumption), if_neg (by assumption), if_pos (by assumption)]) | (rw [if_neg (by assumption), if_neg (by assumption), if_neg (by assumption), if_neg (by assumption), if_neg (by assumption)]))) hP hS dX8_person_116
    · have c_6 := zb1 c_6
      obtain ⟨k, hk, rfl⟩ := zkind_of c_6
      refine lv_aload_n hx hb dX8_person_20 rfl (lv_at hl 0 rfl) ?_
      refine z_get (ci := 8) (v := .ref a) Z zin8 hP 0 rfl rfl 2 (by decide) zm176 rfl rfl dX8_person_21 ?_
      refine lv_iload_n hx hb dX8_person_24 rfl (lv_at hl 1 rfl) ?_
      refine lv_iload_n hx hb dX8_person_25 rfl (lv_at hl 2 rfl) ?_
      refine z_callVi (As := [.int (nI p), .int (nI k)]) (rest := []) (ci := 6) (k0 := 0) Z hP hD hS hl.1 (zc_X6_expected l D cI cZ a b f p k (by omega) (by omega)) zm333 zm334 zm335 zm33 zm336 ⟨rfl, zd_X6_expected⟩ ⟨Nat.le_of_ble_eq_true rfl, Nat.le_of_ble_eq_true rfl⟩ ⟨Nat.zero_le _, Nat.zero_le _⟩ [4, 5] rfl (by decide) rfl rfl rfl (fun _ => rfl) rfl (Nat.le_of_ble_eq_true rfl) rfl dX8_person_26 (fun r_18 u H locs h_19 hP hD hS => ?_)
      have hP : va_P D vwCl [(o, .inr (8, [.ref tx, .ref r, .ref a, .ref r2, .ref a2, .ref x, .ref y, .ref z, .ref v, .ref h, .long sd])), (r, .inr (3, [.ref ro, .ref rn, .ref rr, .int rt, .int fr, .int pr, .int (nI n), .int (nI m)])), (rn, .inl (cI, 5, .inl nv)), (rr, .inl (cI, 5, .inl rd)), (a, .inr (6, [.ref b])), (b, .inl (cI, 36, .inl f))] H := hP
      have hD : va_D A [(o, .inr (8, [.ref tx, .ref r, .ref a, .ref r2, .ref a2, .ref x, .ref y, .ref z, .ref v, .ref h, .long sd])), (r, .inr (3, [.ref ro, .ref rn, .ref rr, .int rt, .int fr, .int pr, .int (nI n), .int (nI m)])), (rn, .inl (cI, 5, .inl nv)), (rr, .inl (cI, 5, .inl rd)), (a, .inr (6, [.ref b])), (b, .inl (cI, 36, .inl f))] := hD
      have h_19 : r_18 = f (p * 4 + k) := h_19
      subst h_19
      exact z_iret Z () (by first | rw [zPa_n (by assumption)] | (rw [zPa_y hp hn]; unfold zprs; rw [zKa_y hk]) | (rw [zPa_y hp hn]; unfold zprs; rw [zKa_n (by assumption)]; first | (rw [if_pos (by assumption)]) | (rw [if_neg (by assumption), if_pos (by assumption)]) | (rw [if_neg (by assumption), if_neg (by assumption), if_pos (by assumption)]) | (rw [if_neg (by assumption), if_neg (by assumption), if_neg (by assumption), if_pos (by assumption)]) | (rw [if_neg (by assumption), if_neg (by assumption), if_neg (by assumption), if_neg (by assumption), if_pos (by assumption)]) | (rw [if_neg (by assumption), if_neg (by assumption), if_neg (by assumption), if_neg (by assumption), if_neg (by assumption)]))) hP hS dX8_person_29
  · have c_3 := zb0 c_3
    refine lv_iconst (v := -1) hx hb dX8_person_11 (by decide) ?_
    exact z_iret Z () (by first | rw [zPa_n (by assumption)] | (rw [zPa_y hp hn]; unfold zprs; rw [zKa_y hk]) | (rw [zPa_y hp hn]; unfold zprs; rw [zKa_n (by assumption)]; first | (rw [if_pos (by assumption)]) | (rw [if_neg (by assumption), if_pos (by assumption)]) | (rw [if_neg (by assumption), if_neg (by assumption), if_pos (by assumption)]) | (rw [if_neg (by assumption), if_neg (by assumption), if_neg (by assumption), if_pos (by assumption)]) | (rw [if_neg (by assumption), if_neg (by assumption), if_neg (by assumption), if_neg (by assumption), if_pos (by assumption)]) | (rw [if_neg (by assumption), if_neg (by assumption), if_neg (by assumption), if_neg (by assumption), if_neg (by assumption)]))) hP hS dX8_person_12

theorem dX8_declare_0 : decode cX8_declare 0 = .ok (.aload_n 0, 1) := by decide +kernel
theorem dX8_declare_1 : decode cX8_declare 1 = .ok (.getfield 19, 3) := by decide +kernel
theorem dX8_declare_4 : decode cX8_declare 4 = .ok (.iload_n 1, 1) := by decide +kernel
theorem dX8_declare_5 : decode cX8_declare 5 = .ok (.invokevirtual 126, 3) := by decide +kernel
theorem dX8_declare_8 : decode cX8_declare 8 = .ok (.ifCond .ne 5, 3) := by decide +kernel
theorem dX8_declare_11 : decode cX8_declare 11 = .ok (.iconst (-1), 1) := by decide +kernel
theorem dX8_declare_12 : decode cX8_declare 12 = .ok (.ireturn, 1) := by decide +kernel
theorem dX8_declare_13 : decode cX8_declare 13 = .ok (.iload_n 2, 1) := by decide +kernel
theorem dX8_declare_14 : decode cX8_declare 14 = .ok (.invokestatic 130, 3) := by decide +kernel
theorem dX8_declare_17 : decode cX8_declare 17 = .ok (.ifCond .ne 6, 3) := by decide +kernel
theorem dX8_declare_20 : decode cX8_declare 20 = .ok (.bipush (-2), 2) := by decide +kernel
theorem dX8_declare_22 : decode cX8_declare 22 = .ok (.ireturn, 1) := by decide +kernel
theorem dX8_declare_23 : decode cX8_declare 23 = .ok (.aload_n 0, 1) := by decide +kernel
theorem dX8_declare_24 : decode cX8_declare 24 = .ok (.getfield 26, 3) := by decide +kernel
theorem dX8_declare_27 : decode cX8_declare 27 = .ok (.iload_n 1, 1) := by decide +kernel
theorem dX8_declare_28 : decode cX8_declare 28 = .ok (.invokevirtual 145, 3) := by decide +kernel
theorem dX8_declare_31 : decode cX8_declare 31 = .ok (.bipush (-9), 2) := by decide +kernel
theorem dX8_declare_33 : decode cX8_declare 33 = .ok (.if_icmp .eq 6, 3) := by decide +kernel
theorem dX8_declare_36 : decode cX8_declare 36 = .ok (.bipush (-3), 2) := by decide +kernel
theorem dX8_declare_38 : decode cX8_declare 38 = .ok (.ireturn, 1) := by decide +kernel
theorem dX8_declare_39 : decode cX8_declare 39 = .ok (.aload_n 0, 1) := by decide +kernel
theorem dX8_declare_40 : decode cX8_declare 40 = .ok (.getfield 39, 3) := by decide +kernel
theorem dX8_declare_43 : decode cX8_declare 43 = .ok (.aload_n 0, 1) := by decide +kernel
theorem dX8_declare_44 : decode cX8_declare 44 = .ok (.getfield 26, 3) := by decide +kernel
theorem dX8_declare_47 : decode cX8_declare 47 = .ok (.invokevirtual 154, 3) := by decide +kernel
theorem dX8_declare_50 : decode cX8_declare 50 = .ok (.aload_n 0, 1) := by decide +kernel
theorem dX8_declare_51 : decode cX8_declare 51 = .ok (.getfield 26, 3) := by decide +kernel
theorem dX8_declare_54 : decode cX8_declare 54 = .ok (.iload_n 1, 1) := by decide +kernel
theorem dX8_declare_55 : decode cX8_declare 55 = .ok (.aload_n 0, 1) := by decide +kernel
theorem dX8_declare_56 : decode cX8_declare 56 = .ok (.getfield 19, 3) := by decide +kernel
theorem dX8_declare_59 : decode cX8_declare 59 = .ok (.getfield 106, 3) := by decide +kernel
theorem dX8_declare_62 : decode cX8_declare 62 = .ok (.invokevirtual 158, 3) := by decide +kernel
theorem dX8_declare_65 : decode cX8_declare 65 = .ok (.aload_n 0, 1) := by decide +kernel
theorem dX8_declare_66 : decode cX8_declare 66 = .ok (.getfield 26, 3) := by decide +kernel
theorem dX8_declare_69 : decode cX8_declare 69 = .ok (.iload_n 1, 1) := by decide +kernel
theorem dX8_declare_70 : decode cX8_declare 70 = .ok (.iload_n 2, 1) := by decide +kernel
theorem dX8_declare_71 : decode cX8_declare 71 = .ok (.invokevirtual 162, 3) := by decide +kernel
theorem dX8_declare_74 : decode cX8_declare 74 = .ok (.aload_n 0, 1) := by decide +kernel
theorem dX8_declare_75 : decode cX8_declare 75 = .ok (.getfield 26, 3) := by decide +kernel
theorem dX8_declare_78 : decode cX8_declare 78 = .ok (.iload_n 1, 1) := by decide +kernel
theorem dX8_declare_79 : decode cX8_declare 79 = .ok (.invokevirtual 137, 3) := by decide +kernel
theorem dX8_declare_82 : decode cX8_declare 82 = .ok (.ldc 141, 2) := by decide +kernel
theorem dX8_declare_84 : decode cX8_declare 84 = .ok (.iadd, 1) := by decide +kernel
theorem dX8_declare_85 : decode cX8_declare 85 = .ok (.ireturn, 1) := by decide +kernel
theorem zd_X8_declare : yX8_declare.cls ≠ "java/lang/invoke/MethodHandle" ∧ yX8_declare.cls ≠ "java/lang/invoke/VarHandle" ∧ (parseMethodDescriptor yX8_declare.desc).map (fun d => d.parameters.length) = some 2 := by decide +kernel
set_option maxHeartbeats 4000000 in
set_option maxRecDepth 100000 in
theorem zc_X8_declare (l : Launch) (D : va_G) (cI cZ : ClassId) (o : Nat) (tx : Nat) (r : Nat) (a : Nat) (r2 : Nat) (a2 : Nat) (x : Nat) (y : Nat) (z : Nat) (v : Nat) (h : Nat) (sd : Int64) (ro : Nat) (rn : Nat) (rr : Nat) (rt : Int32) (fr : Int32) (pr : Int32) (n : Nat) (m : Nat) (b : Nat) (f : Nat → Int32) (xs : Nat) (cn : Nat) (nx : Nat) (sf : Nat → Int32) (x1 : Int32) (x2 : Int32) (hn : n ≤ 5) (hcn : cn ≤ 12) (hnx : nx < 12) : zI l yX8_declare cX8_declare 3 .int 3 61 D cI cZ [.ref o, .int x1, .int x2] [(o, .inr (8, [.ref tx, .ref r, .ref a, .ref r2, .ref a2, .ref x, .ref y, .ref z, .ref v, .ref h, .long sd])), (r, .inr (3, [.ref ro, .ref rn, .ref rr, .int rt, .int fr, .int pr, .int (nI n), .int (nI m)])), (a, .inr (6, [.ref b])), (b, .inl (cI, 36, .inl f)), (x, .inr (0, [.ref xs, .int (nI cn), .int (nI nx)])), (xs, .inl (cI, 432, .inl sf))] (fun (r : Int32) (u : Unit) => r = zPa n x1 (fun p => zKa x2 (fun k => if f (25 + p) = -9 then f (20 + p) - pr + 100000 else -3) (-2)) (-1)) (fun (u : Unit) => [(o, .inr (8, [.ref tx, .ref r, .ref a, .ref r2, .ref a2, .ref x, .ref y, .ref z, .ref v, .ref h, .long sd])), (r, .inr (3, [.ref ro, .ref rn, .ref rr, .int rt, .int fr, .int pr, .int (nI n), .int (nI m)])), (a, .inr (6, [.ref b])), (b, .inl (cI, 36, .inl (zPa n x1 (fun p => zKa x2 (fun k => if f (25 + p) = -9 then upd (upd f (20 + p) (f (20 + p) - pr)) (25 + p) (nI k) else f) f) f))), (x, .inr (0, [.ref xs, .int (nI (zPa n x1 (fun p => zKa x2 (fun k => if f (25 + p) = -9 then zcn cn else cn) cn) cn)), .int (nI (zPa n x1 (fun p => zKa x2 (fun k => if f (25 + p) = -9 then znx nx else nx) nx) nx))])), (xs, .inl (cI, 432, .inl (zPa n x1 (fun p => zKa x2 (fun k => if f (25 + p) = -9 then va_cpy f sf 0 (nx * 36) 36 else sf) sf) sf)))]) := by
  refine zI_of (by decide) (Nat.le_of_ble_eq_true rfl) ?_
  intro pP eE sS mM aA bB mT cC A ls Z hP hD hS hl
  have hx := Z.1
  have hb := Z.2.1
  have hown := Z.2.2.2.2.2.1
  have hts := Z.2.2.2.2.1
  have Z : zAt pP sS mM aA mT cC D cI cZ A "SurpriseTax" cX8_declare 3 (some .int) := Z
  have hl : lv_has ls 3 [(0, .ref o), (1, .int x1), (2, .int x2)] := hl
  obtain ⟨H, hH⟩ : ∃ H, H = sS.heap := ⟨_, rfl⟩
  have hP : va_P D vwCl [(o, .inr (8, [.ref tx, .ref r, .ref a, .ref r2, .ref a2, .ref x, .ref y, .ref z, .ref v, .ref h, .long sd])), (r, .inr (3, [.ref ro, .ref rn, .ref rr, .int rt, .int fr, .int pr, .int (nI n), .int (nI m)])), (a, .inr (6, [.ref b])), (b, .inl (cI, 36, .inl f)), (x, .inr (0, [.ref xs, .int (nI cn), .int (nI nx)])), (xs, .inl (cI, 432, .inl sf))] H := by rw [hH]; exact hP
  have hS : va_S A sS.heap H [] := by rw [hH]; exact hS
  rw [← hH]
  clear hH
  obtain ⟨locs, hlo⟩ : ∃ q : List Loc, q = [] := ⟨_, rfl⟩
  rw [← hlo] at hS ⊢
  clear hlo
  refine lv_aload_n hx hb dX8_declare_0 rfl (lv_at hl 0 rfl) ?_
  refine z_get (ci := 8) (v := .ref r) Z zin8 hP 0 rfl rfl 1 (by decide) zm175 rfl rfl dX8_declare_1 ?_
  refine lv_iload_n hx hb dX8_declare_4 rfl (lv_at hl 1 rfl) ?_
  refine z_callVi (As := [.int x1]) (rest := []) (ci := 3) (k0 := 0) Z hP hD hS hl.1 (zc_X3_has l D cI cZ r ro rn rr rt fr pr n m x1 ) zm329 zm270 zm271 zm32 zm272 ⟨rfl, zd_X3_has⟩ ⟨Nat.le_of_ble_eq_true rfl, Nat.le_of_ble_eq_true rfl⟩ ⟨Nat.zero_le _, Nat.zero_le _⟩ [1] rfl (by decide) rfl rfl rfl (fun _ => rfl) rfl (Nat.le_of_ble_eq_true rfl) rfl dX8_declare_5 (fun r_1 u H locs h_2 hP hD hS => ?_)
  have hP : va_P D vwCl [(o, .inr (8, [.ref tx, .ref r, .ref a, .ref r2, .ref a2, .ref x, .ref y, .ref z, .ref v, .ref h, .long sd])), (r, .inr (3, [.ref ro, .ref rn, .ref rr, .int rt, .int fr, .int pr, .int (nI n), .int (nI m)])), (a, .inr (6, [.ref b])), (b, .inl (cI, 36, .inl f)), (x, .inr (0, [.ref xs, .int (nI cn), .int (nI nx)])), (xs, .inl (cI, 432, .inl sf))] H := hP
  have hD : va_D A [(o, .inr (8, [.ref tx, .ref r, .ref a, .ref r2, .ref a2, .ref x, .ref y, .ref z, .ref v, .ref h, .long sd])), (r, .inr (3, [.ref ro, .ref rn, .ref rr, .int rt, .int fr, .int pr, .int (nI n), .int (nI m)])), (a, .inr (6, [.ref b])), (b, .inl (cI, 36, .inl f)), (x, .inr (0, [.ref xs, .int (nI cn), .int (nI nx)])), (xs, .inl (cI, 432, .inl sf))] := hD
  have h_2 : r_1 = if zhas n x1 then 1 else 0 := h_2
  subst h_2
  refine lv_if_ne (tgt := 13) hx hb dX8_declare_8 (by decide) (fun c_3 => ?_) (fun c_3 => ?_)
  · have c_3 := zb1 c_3
    obtain ⟨p, hp, rfl⟩ := zhas_of (by omega) c_3
    refine lv_iload_n hx hb dX8_declare_13 rfl (lv_at hl 2 rfl) ?_
    refine z_callSi (As := [.int x2]) (rest := []) Z hP hD hS hl.1 (zc_X8_isKind l D cI cZ x2 ) zm330 zm331 zm30 zm332 zd_X8_isKind ⟨Nat.le_of_ble_eq_true rfl, Nat.le_of_ble_eq_true rfl⟩ ⟨Nat.zero_le _, Nat.zero_le _⟩ [] rfl (by decide) (fun _ => rfl) rfl (Nat.le_of_ble_eq_true rfl) rfl dX8_declare_14 (fun r_4 u H locs h_5 hP hD hS => ?_)
    have hP : va_P D vwCl [(o, .inr (8, [.ref tx, .ref r, .ref a, .ref r2, .ref a2, .ref x, .ref y, .ref z, .ref v, .ref h, .long sd])), (r, .inr (3, [.ref ro, .ref rn, .ref rr, .int rt, .int fr, .int pr, .int (nI n), .int (nI m)])), (a, .inr (6, [.ref b])), (b, .inl (cI, 36, .inl f)), (x, .inr (0, [.ref xs, .int (nI cn), .int (nI nx)])), (xs, .inl (cI, 432, .inl sf))] H := hP
    have hD : va_D A [(o, .inr (8, [.ref tx, .ref r, .ref a, .ref r2, .ref a2, .ref x, .ref y, .ref z, .ref v, .ref h, .long sd])), (r, .inr (3, [.ref ro, .ref rn, .ref rr, .int rt, .int fr, .int pr, .int (nI n), .int (nI m)])), (a, .inr (6, [.ref b])), (b, .inl (cI, 36, .inl f)), (x, .inr (0, [.ref xs, .int (nI cn), .int (nI nx)])), (xs, .inl (cI, 432, .inl sf))] := hD
    have h_5 : r_4 = if zkind x2 then 1 else 0 := h_5
    subst h_5
    refine lv_if_ne (tgt := 23) hx hb dX8_declare_17 (by decide) (fun c_6 => ?_) (fun c_6 => ?_)
    · have c_6 := zb1 c_6
      obtain ⟨k, hk, rfl⟩ := zkind_of c_6
      refine lv_aload_n hx hb dX8_declare_23 rfl (lv_at hl 0 rfl) ?_
      refine z_get (ci := 8) (v := .ref a) Z zin8 hP 0 rfl rfl 2 (by decide) zm176 rfl rfl dX8_declare_24 ?_
      refine lv_iload_n hx hb dX8_declare_27 rfl (lv_at hl 1 rfl) ?_
      refine z_callVi (As := [.int (nI p)]) (rest := []) (ci := 6) (k0 := 0) Z hP hD hS hl.1 (zc_X6_declared l D cI cZ a b f p (by omega)) zm339 zm340 zm341 zm33 zm342 ⟨rfl, zd_X6_declared⟩ ⟨Nat.le_of_ble_eq_true rfl, Nat.le_of_ble_eq_true rfl⟩ ⟨Nat.zero_le _, Nat.zero_le _⟩ [2, 3] rfl (by decide) rfl rfl rfl (fun _ => rfl) rfl (Nat.le_of_ble_eq_true rfl) rfl dX8_declare_28 (fun r_7 u H locs h_8 hP hD hS => ?_)
      have hP : va_P D vwCl [(o, .inr (8, [.ref tx, .ref r, .ref a, .ref r2, .ref a2, .ref x, .ref y, .ref z, .ref v, .ref h, .long sd])), (r, .inr (3, [.ref ro, .ref rn, .ref rr, .int rt, .int fr, .int pr, .int (nI n), .int (nI m)])), (a, .inr (6, [.ref b])), (b, .inl (cI, 36, .inl f)), (x, .inr (0, [.ref xs, .int (nI cn), .int (nI nx)])), (xs, .inl (cI, 432, .inl sf))] H := hP
      have hD : va_D A [(o, .inr (8, [.ref tx, .ref r, .ref a, .ref r2, .ref a2, .ref x, .ref y, .ref z, .ref v, .ref h, .long sd])), (r, .inr (3, [.ref ro, .ref rn, .ref rr, .int rt, .int fr, .int pr, .int (nI n), .int (nI m)])), (a, .inr (6, [.ref b])), (b, .inl (cI, 36, .inl f)), (x, .inr (0, [.ref xs, .int (nI cn), .int (nI nx)])), (xs, .inl (cI, 432, .inl sf))] := hD
      have h_8 : r_7 = f (25 + p) := h_8
      subst h_8
      refine lv_bipush (v := -9) hx hb dX8_declare_31 (by decide) ?_
      refine lv_icmp_eq (tgt := 39) hx hb dX8_declare_33 (by decide) (fun c_9 => ?_) (fun c_9 => ?_)
      · have c_9 : (f (25 + p)) = (-9) := c_9
        refine lv_aload_n hx hb dX8_declare_39 rfl (lv_at hl 0 rfl) ?_
        refine z_get (ci := 8) (v := .ref x) Z zin8 hP 0 rfl rfl 5 (by decide) zm179 rfl rfl dX8_declare_40 ?_
        refine lv_aload_n hx hb dX8_declare_43 rfl (lv_at hl 0 rfl) ?_
        refine z_get (ci := 8) (v := .ref a) Z zin8 hP 0 rfl rfl 2 (by decide) zm176 rfl rfl dX8_declare_44 ?_
        refine z_callVv (As := [.ref a]) (rest := []) (ci := 0) (k0 := 0) Z hP hD hS hl.1 (zc_X0_remember l D cI cZ x xs cn nx sf a b f (by omega) (by omega)) zm351 zm352 zm353 zm34 zm354 ⟨rfl, zd_X0_remember⟩ ⟨Nat.le_of_ble_eq_true rfl, Nat.le_of_ble_eq_true rfl⟩ ⟨Nat.zero_le _, Nat.zero_le _⟩ [4, 5, 2, 3] rfl (by decide) rfl rfl rfl (fun _ => rfl) rfl (Nat.le_of_ble_eq_true rfl) rfl dX8_declare_47 (fun u H locs h_11 hP hD hS => ?_)
        have hP : va_P D vwCl [(o, .inr (8, [.ref tx, .ref r, .ref a, .ref r2, .ref a2, .ref x, .ref y, .ref z, .ref v, .ref h, .long sd])), (r, .inr (3, [.ref ro, .ref rn, .ref rr, .int rt, .int fr, .int pr, .int (nI n), .int (nI m)])), (a, .inr (6, [.ref b])), (b, .inl (cI, 36, .inl f)), (x, .inr (0, [.ref xs, .int (nI (zcn cn)), .int (nI (znx nx))])), (xs, .inl (cI, 432, .inl (va_cpy f sf 0 (nx * 36) 36)))] H := hP
        have hD : va_D A [(o, .inr (8, [.ref tx, .ref r, .ref a, .ref r2, .ref a2, .ref x, .ref y, .ref z, .ref v, .ref h, .long sd])), (r, .inr (3, [.ref ro, .ref rn, .ref rr, .int rt, .int fr, .int pr, .int (nI n), .int (nI m)])), (a, .inr (6, [.ref b])), (b, .inl (cI, 36, .inl f)), (x, .inr (0, [.ref xs, .int (nI (zcn cn)), .int (nI (znx nx))])), (xs, .inl (cI, 432, .inl (va_cpy f sf 0 (nx * 36) 36)))] := hD
        refine lv_aload_n hx hb dX8_declare_50 rfl (lv_at hl 0 rfl) ?_
        refine z_get (ci := 8) (v := .ref a) Z zin8 hP 0 rfl rfl 2 (by decide) zm176 rfl rfl dX8_declare_51 ?_
        refine lv_iload_n hx hb dX8_declare_54 rfl (lv_at hl 1 rfl) ?_
        refine lv_aload_n hx hb dX8_declare_55 rfl (lv_at hl 0 rfl) ?_
        refine z_get (ci := 8) (v := .ref r) Z zin8 hP 0 rfl rfl 1 (by decide) zm175 rfl rfl dX8_declare_56 ?_
        refine z_getN (ci := 3) (v := .int pr) Z zin3 hP 1 rfl rfl 5 (by decide) zn15 rfl rfl dX8_declare_59 ?_
        refine z_callVv (As := [.int (nI p), .int pr]) (rest := []) (ci := 6) (k0 := 0) Z hP hD hS hl.1 (zc_X6_pay l D cI cZ a b f p pr (by omega)) zm363 zm364 zm365 zm33 zm366 ⟨rfl, zd_X6_pay⟩ ⟨Nat.le_of_ble_eq_true rfl, Nat.le_of_ble_eq_true rfl⟩ ⟨Nat.zero_le _, Nat.zero_le _⟩ [2, 3] rfl (by decide) rfl rfl rfl (fun _ => rfl) rfl (Nat.le_of_ble_eq_true rfl) rfl dX8_declare_62 (fun u H locs h_13 hP hD hS => ?_)
        have hP : va_P D vwCl [(o, .inr (8, [.ref tx, .ref r, .ref a, .ref r2, .ref a2, .ref x, .ref y, .ref z, .ref v, .ref h, .long sd])), (r, .inr (3, [.ref ro, .ref rn, .ref rr, .int rt, .int fr, .int pr, .int (nI n), .int (nI m)])), (a, .inr (6, [.ref b])), (b, .inl (cI, 36, .inl (upd f (20 + p) (f (20 + p) - pr)))), (x, .inr (0, [.ref xs, .int (nI (zcn cn)), .int (nI (znx nx))])), (xs, .inl (cI, 432, .inl (va_cpy f sf 0 (nx * 36) 36)))] H := hP
        have hD : va_D A [(o, .inr (8, [.ref tx, .ref r, .ref a, .ref r2, .ref a2, .ref x, .ref y, .ref z, .ref v, .ref h, .long sd])), (r, .inr (3, [.ref ro, .ref rn, .ref rr, .int rt, .int fr, .int pr, .int (nI n), .int (nI m)])), (a, .inr (6, [.ref b])), (b, .inl (cI, 36, .inl (upd f (20 + p) (f (20 + p) - pr)))), (x, .inr (0, [.ref xs, .int (nI (zcn cn)), .int (nI (znx nx))])), (xs, .inl (cI, 432, .inl (va_cpy f sf 0 (nx * 36) 36)))] := hD
        refine lv_aload_n hx hb dX8_declare_65 rfl (lv_at hl 0 rfl) ?_
        refine z_get (ci := 8) (v := .ref a) Z zin8 hP 0 rfl rfl 2 (by decide) zm176 rfl rfl dX8_declare_66 ?_
        refine lv_iload_n hx hb dX8_declare_69 rfl (lv_at hl 1 rfl) ?_
        refine lv_iload_n hx hb dX8_declare_70 rfl (lv_at hl 2 rfl) ?_
        refine z_callVv (As := [.int (nI p), .int (nI k)]) (rest := []) (ci := 6) (k0 := 0) Z hP hD hS hl.1 (zc_X6_setDeclared l D cI cZ a b (upd f (20 + p) (f (20 + p) - pr)) p (nI k) (by omega)) zm367 zm103 zm104 zm33 zm105 ⟨rfl, zd_X6_setDeclared⟩ ⟨Nat.le_of_ble_eq_true rfl, Nat.le_of_ble_eq_true rfl⟩ ⟨Nat.zero_le _, Nat.zero_le _⟩ [2, 3] rfl (by decide) rfl rfl rfl (fun _ => rfl) rfl (Nat.le_of_ble_eq_true rfl) rfl dX8_declare_71 (fun u H locs h_15 hP hD hS => ?_)
        have hP : va_P D vwCl [(o, .inr (8, [.ref tx, .ref r, .ref a, .ref r2, .ref a2, .ref x, .ref y, .ref z, .ref v, .ref h, .long sd])), (r, .inr (3, [.ref ro, .ref rn, .ref rr, .int rt, .int fr, .int pr, .int (nI n), .int (nI m)])), (a, .inr (6, [.ref b])), (b, .inl (cI, 36, .inl (upd (upd f (20 + p) (f (20 + p) - pr)) (25 + p) (nI k)))), (x, .inr (0, [.ref xs, .int (nI (zcn cn)), .int (nI (znx nx))])), (xs, .inl (cI, 432, .inl (va_cpy f sf 0 (nx * 36) 36)))] H := hP
        have hD : va_D A [(o, .inr (8, [.ref tx, .ref r, .ref a, .ref r2, .ref a2, .ref x, .ref y, .ref z, .ref v, .ref h, .long sd])), (r, .inr (3, [.ref ro, .ref rn, .ref rr, .int rt, .int fr, .int pr, .int (nI n), .int (nI m)])), (a, .inr (6, [.ref b])), (b, .inl (cI, 36, .inl (upd (upd f (20 + p) (f (20 + p) - pr)) (25 + p) (nI k)))), (x, .inr (0, [.ref xs, .int (nI (zcn cn)), .int (nI (znx nx))])), (xs, .inl (cI, 432, .inl (va_cpy f sf 0 (nx * 36) 36)))] := hD
        refine lv_aload_n hx hb dX8_declare_74 rfl (lv_at hl 0 rfl) ?_
        refine z_get (ci := 8) (v := .ref a) Z zin8 hP 0 rfl rfl 2 (by decide) zm176 rfl rfl dX8_declare_75 ?_
        refine lv_iload_n hx hb dX8_declare_78 rfl (lv_at hl 1 rfl) ?_
        refine z_callVi (As := [.int (nI p)]) (rest := []) (ci := 6) (k0 := 0) Z hP hD hS hl.1 (zc_X6_coins l D cI cZ a b (upd (upd f (20 + p) (f (20 + p) - pr)) (25 + p) (nI k)) p (by omega)) zm337 zm314 zm315 zm33 zm316 ⟨rfl, zd_X6_coins⟩ ⟨Nat.le_of_ble_eq_true rfl, Nat.le_of_ble_eq_true rfl⟩ ⟨Nat.zero_le _, Nat.zero_le _⟩ [2, 3] rfl (by decide) rfl rfl rfl (fun _ => rfl) rfl (Nat.le_of_ble_eq_true rfl) rfl dX8_declare_79 (fun r_16 u H locs h_17 hP hD hS => ?_)
        have hP : va_P D vwCl [(o, .inr (8, [.ref tx, .ref r, .ref a, .ref r2, .ref a2, .ref x, .ref y, .ref z, .ref v, .ref h, .long sd])), (r, .inr (3, [.ref ro, .ref rn, .ref rr, .int rt, .int fr, .int pr, .int (nI n), .int (nI m)])), (a, .inr (6, [.ref b])), (b, .inl (cI, 36, .inl (upd (upd f (20 + p) (f (20 + p) - pr)) (25 + p) (nI k)))), (x, .inr (0, [.ref xs, .int (nI (zcn cn)), .int (nI (znx nx))])), (xs, .inl (cI, 432, .inl (va_cpy f sf 0 (nx * 36) 36)))] H := hP
        have hD : va_D A [(o, .inr (8, [.ref tx, .ref r, .ref a, .ref r2, .ref a2, .ref x, .ref y, .ref z, .ref v, .ref h, .long sd])), (r, .inr (3, [.ref ro, .ref rn, .ref rr, .int rt, .int fr, .int pr, .int (nI n), .int (nI m)])), (a, .inr (6, [.ref b])), (b, .inl (cI, 36, .inl (upd (upd f (20 + p) (f (20 + p) - pr)) (25 + p) (nI k)))), (x, .inr (0, [.ref xs, .int (nI (zcn cn)), .int (nI (znx nx))])), (xs, .inl (cI, 432, .inl (va_cpy f sf 0 (nx * 36) 36)))] := hD
        have h_17 : r_16 = (upd (upd f (20 + p) (f (20 + p) - pr)) (25 + p) (nI k)) (20 + p) := h_17
        subst h_17
        refine z_top (y := f (20 + p) - pr) (zdcl) ?_
        refine lv_ldc (v := 100000) hx hb hown (hts _ zm338) dX8_declare_82 ?_
        refine lv_iadd hx hb dX8_declare_84 ?_
        refine z_top (y := (f (20 + p) - pr) + 100000) rfl ?_
        have e_18 : upd (upd f (20 + p) (f (20 + p) - pr)) (25 + p) (nI k) = (zPa n (nI p) (fun p => zKa (nI k) (fun k => if f (25 + p) = -9 then upd (upd f (20 + p) (f (20 + p) - pr)) (25 + p) (nI k) else f) f) f) := by first | rw [zPa_n (by assumption)] | rw [zPa_y hp hn, zKa_n (by assumption)] | rw [zPa_y hp hn, zKa_y hk, if_pos (by assumption)] | rw [zPa_y hp hn, zKa_y hk, if_neg (by assumption)] | rw [zPa_y hp hn, zKa_y hk] | rw [zPa_y hp hn, if_pos (by assumption)] | rw [zPa_y hp hn, if_neg (by assumption)] | rw [zPa_y hp hn] | rfl
        have hP : va_P D vwCl [(o, .inr (8, [.ref tx, .ref r, .ref a, .ref r2, .ref a2, .ref x, .ref y, .ref z, .ref v, .ref h, .long sd])), (r, .inr (3, [.ref ro, .ref rn, .ref rr, .int rt, .int fr, .int pr, .int (nI n), .int (nI m)])), (a, .inr (6, [.ref b])), (b, .inl (cI, 36, .inl (zPa n (nI p) (fun p => zKa (nI k) (fun k => if f (25 + p) = -9 then upd (upd f (20 + p) (f (20 + p) - pr)) (25 + p) (nI k) else f) f) f))), (x, .inr (0, [.ref xs, .int (nI (zcn cn)), .int (nI (znx nx))])), (xs, .inl (cI, 432, .inl (va_cpy f sf 0 (nx * 36) 36)))] H := Eq.subst (motive := fun zz_ => va_P D vwCl [(o, .inr (8, [.ref tx, .ref r, .ref a, .ref r2, .ref a2, .ref x, .ref y, .ref z, .ref v, .ref h, .long sd])), (r, .inr (3, [.ref ro, .ref rn, .ref rr, .int rt, .int fr, .int pr, .int (nI n), .int (nI m)])), (a, .inr (6, [.ref b])), (b, .inl (cI, 36, .inl zz_)), (x, .inr (0, [.ref xs, .int (nI (zcn cn)), .int (nI (znx nx))])), (xs, .inl (cI, 432, .inl (va_cpy f sf 0 (nx * 36) 36)))] H) e_18 hP
        have e_19 : nI (zcn cn) = nI (zPa n (nI p) (fun p => zKa (nI k) (fun k => if f (25 + p) = -9 then zcn cn else cn) cn) cn) := by first | rw [zPa_n (by assumption)] | rw [zPa_y hp hn, zKa_n (by assumption)] | rw [zPa_y hp hn, zKa_y hk, if_pos (by assumption)] | rw [zPa_y hp hn, zKa_y hk, if_neg (by assumption)] | rw [zPa_y hp hn, zKa_y hk] | rw [zPa_y hp hn, if_pos (by assumption)] | rw [zPa_y hp hn, if_neg (by assumption)] | rw [zPa_y hp hn] | rfl
        have hP : va_P D vwCl [(o, .inr (8, [.ref tx, .ref r, .ref a, .ref r2, .ref a2, .ref x, .ref y, .ref z, .ref v, .ref h, .long sd])), (r, .inr (3, [.ref ro, .ref rn, .ref rr, .int rt, .int fr, .int pr, .int (nI n), .int (nI m)])), (a, .inr (6, [.ref b])), (b, .inl (cI, 36, .inl (zPa n (nI p) (fun p => zKa (nI k) (fun k => if f (25 + p) = -9 then upd (upd f (20 + p) (f (20 + p) - pr)) (25 + p) (nI k) else f) f) f))), (x, .inr (0, [.ref xs, .int (nI (zPa n (nI p) (fun p => zKa (nI k) (fun k => if f (25 + p) = -9 then zcn cn else cn) cn) cn)), .int (nI (znx nx))])), (xs, .inl (cI, 432, .inl (va_cpy f sf 0 (nx * 36) 36)))] H := Eq.subst (motive := fun zz_ => va_P D vwCl [(o, .inr (8, [.ref tx, .ref r, .ref a, .ref r2, .ref a2, .ref x, .ref y, .ref z, .ref v, .ref h, .long sd])), (r, .inr (3, [.ref ro, .ref rn, .ref rr, .int rt, .int fr, .int pr, .int (nI n), .int (nI m)])), (a, .inr (6, [.ref b])), (b, .inl (cI, 36, .inl (zPa n (nI p) (fun p => zKa (nI k) (fun k => if f (25 + p) = -9 then upd (upd f (20 + p) (f (20 + p) - pr)) (25 + p) (nI k) else f) f) f))), (x, .inr (0, [.ref xs, .int zz_, .int (nI (znx nx))])), (xs, .inl (cI, 432, .inl (va_cpy f sf 0 (nx * 36) 36)))] H) e_19 hP
        have e_20 : nI (znx nx) = nI (zPa n (nI p) (fun p => zKa (nI k) (fun k => if f (25 + p) = -9 then znx nx else nx) nx) nx) := by first | rw [zPa_n (by assumption)] | rw [zPa_y hp hn, zKa_n (by assumption)] | rw [zPa_y hp hn, zKa_y hk, if_pos (by assumption)] | rw [zPa_y hp hn, zKa_y hk, if_neg (by assumption)] | rw [zPa_y hp hn, zKa_y hk] | rw [zPa_y hp hn, if_pos (by assumption)] | rw [zPa_y hp hn, if_neg (by assumption)] | rw [zPa_y hp hn] | rfl
        have hP : va_P D vwCl [(o, .inr (8, [.ref tx, .ref r, .ref a, .ref r2, .ref a2, .ref x, .ref y, .ref z, .ref v, .ref h, .long sd])), (r, .inr (3, [.ref ro, .ref rn, .ref rr, .int rt, .int fr, .int pr, .int (nI n), .int (nI m)])), (a, .inr (6, [.ref b])), (b, .inl (cI, 36, .inl (zPa n (nI p) (fun p => zKa (nI k) (fun k => if f (25 + p) = -9 then upd (upd f (20 + p) (f (20 + p) - pr)) (25 + p) (nI k) else f) f) f))), (x, .inr (0, [.ref xs, .int (nI (zPa n (nI p) (fun p => zKa (nI k) (fun k => if f (25 + p) = -9 then zcn cn else cn) cn) cn)), .int (nI (zPa n (nI p) (fun p => zKa (nI k) (fun k => if f (25 + p) = -9 then znx nx else nx) nx) nx))])), (xs, .inl (cI, 432, .inl (va_cpy f sf 0 (nx * 36) 36)))] H := Eq.subst (motive := fun zz_ => va_P D vwCl [(o, .inr (8, [.ref tx, .ref r, .ref a, .ref r2, .ref a2, .ref x, .ref y, .ref z, .ref v, .ref h, .long sd])), (r, .inr (3, [.ref ro, .ref rn, .ref rr, .int rt, .int fr, .int pr, .int (nI n), .int (nI m)])), (a, .inr (6, [.ref b])), (b, .inl (cI, 36, .inl (zPa n (nI p) (fun p => zKa (nI k) (fun k => if f (25 + p) = -9 then upd (upd f (20 + p) (f (20 + p) - pr)) (25 + p) (nI k) else f) f) f))), (x, .inr (0, [.ref xs, .int (nI (zPa n (nI p) (fun p => zKa (nI k) (fun k => if f (25 + p) = -9 then zcn cn else cn) cn) cn)), .int zz_])), (xs, .inl (cI, 432, .inl (va_cpy f sf 0 (nx * 36) 36)))] H) e_20 hP
        have e_21 : va_cpy f sf 0 (nx * 36) 36 = (zPa n (nI p) (fun p => zKa (nI k) (fun k => if f (25 + p) = -9 then va_cpy f sf 0 (nx * 36) 36 else sf) sf) sf) := by first | rw [zPa_n (by assumption)] | rw [zPa_y hp hn, zKa_n (by assumption)] | rw [zPa_y hp hn, zKa_y hk, if_pos (by assumption)] | rw [zPa_y hp hn, zKa_y hk, if_neg (by assumption)] | rw [zPa_y hp hn, zKa_y hk] | rw [zPa_y hp hn, if_pos (by assumption)] | rw [zPa_y hp hn, if_neg (by assumption)] | rw [zPa_y hp hn] | rfl
        have hP : va_P D vwCl [(o, .inr (8, [.ref tx, .ref r, .ref a, .ref r2, .ref a2, .ref x, .ref y, .ref z, .ref v, .ref h, .long sd])), (r, .inr (3, [.ref ro, .ref rn, .ref rr, .int rt, .int fr, .int pr, .int (nI n), .int (nI m)])), (a, .inr (6, [.ref b])), (b, .inl (cI, 36, .inl (zPa n (nI p) (fun p => zKa (nI k) (fun k => if f (25 + p) = -9 then upd (upd f (20 + p) (f (20 + p) - pr)) (25 + p) (nI k) else f) f) f))), (x, .inr (0, [.ref xs, .int (nI (zPa n (nI p) (fun p => zKa (nI k) (fun k => if f (25 + p) = -9 then zcn cn else cn) cn) cn)), .int (nI (zPa n (nI p) (fun p => zKa (nI k) (fun k => if f (25 + p) = -9 then znx nx else nx) nx) nx))])), (xs, .inl (cI, 432, .inl (zPa n (nI p) (fun p => zKa (nI k) (fun k => if f (25 + p) = -9 then va_cpy f sf 0 (nx * 36) 36 else sf) sf) sf)))] H := Eq.subst (motive := fun zz_ => va_P D vwCl [(o, .inr (8, [.ref tx, .ref r, .ref a, .ref r2, .ref a2, .ref x, .ref y, .ref z, .ref v, .ref h, .long sd])), (r, .inr (3, [.ref ro, .ref rn, .ref rr, .int rt, .int fr, .int pr, .int (nI n), .int (nI m)])), (a, .inr (6, [.ref b])), (b, .inl (cI, 36, .inl (zPa n (nI p) (fun p => zKa (nI k) (fun k => if f (25 + p) = -9 then upd (upd f (20 + p) (f (20 + p) - pr)) (25 + p) (nI k) else f) f) f))), (x, .inr (0, [.ref xs, .int (nI (zPa n (nI p) (fun p => zKa (nI k) (fun k => if f (25 + p) = -9 then zcn cn else cn) cn) cn)), .int (nI (zPa n (nI p) (fun p => zKa (nI k) (fun k => if f (25 + p) = -9 then znx nx else nx) nx) nx))])), (xs, .inl (cI, 432, .inl zz_))] H) e_21 hP
        have hD : va_D A [(o, .inr (8, [.ref tx, .ref r, .ref a, .ref r2, .ref a2, .ref x, .ref y, .ref z, .ref v, .ref h, .long sd])), (r, .inr (3, [.ref ro, .ref rn, .ref rr, .int rt, .int fr, .int pr, .int (nI n), .int (nI m)])), (a, .inr (6, [.ref b])), (b, .inl (cI, 36, .inl (zPa n (nI p) (fun p => zKa (nI k) (fun k => if f (25 + p) = -9 then upd (upd f (20 + p) (f (20 + p) - pr)) (25 + p) (nI k) else f) f) f))), (x, .inr (0, [.ref xs, .int (nI (zPa n (nI p) (fun p => zKa (nI k) (fun k => if f (25 + p) = -9 then zcn cn else cn) cn) cn)), .int (nI (zPa n (nI p) (fun p => zKa (nI k) (fun k => if f (25 + p) = -9 then znx nx else nx) nx) nx))])), (xs, .inl (cI, 432, .inl (zPa n (nI p) (fun p => zKa (nI k) (fun k => if f (25 + p) = -9 then va_cpy f sf 0 (nx * 36) 36 else sf) sf) sf)))] := zD_of hD rfl
        exact z_iret Z () (by first | rw [zPa_n (by assumption)] | rw [zPa_y hp hn, zKa_n (by assumption)] | rw [zPa_y hp hn, zKa_y hk, if_pos (by assumption)] | rw [zPa_y hp hn, zKa_y hk, if_neg (by assumption)] | rw [zPa_y hp hn, zKa_y hk] | rw [zPa_y hp hn, if_pos (by assumption)] | rw [zPa_y hp hn, if_neg (by assumption)] | rw [zPa_y hp hn] | rfl) hP hS dX8_declare_85
      · have c_9 : ¬ ((f (25 + p)) = (-9)) := c_9
        refine lv_bipush (v := -3) hx hb dX8_declare_36 (by decide) ?_
        have e_22 : f = (zPa n (nI p) (fun p => zKa (nI k) (fun k => if f (25 + p) = -9 then upd (upd f (20 + p) (f (20 + p) - pr)) (25 + p) (nI k) else f) f) f) := by first | rw [zPa_n (by assumption)] | rw [zPa_y hp hn, zKa_n (by assumption)] | rw [zPa_y hp hn, zKa_y hk, if_pos (by assumption)] | rw [zPa_y hp hn, zKa_y hk, if_neg (by assumption)] | rw [zPa_y hp hn, zKa_y hk] | rw [zPa_y hp hn, if_pos (by assumption)] | rw [zPa_y hp hn, if_neg (by assumption)] | rw [zPa_y hp hn] | rfl
        have hP : va_P D vwCl [(o, .inr (8, [.ref tx, .ref r, .ref a, .ref r2, .ref a2, .ref x, .ref y, .ref z, .ref v, .ref h, .long sd])), (r, .inr (3, [.ref ro, .ref rn, .ref rr, .int rt, .int fr, .int pr, .int (nI n), .int (nI m)])), (a, .inr (6, [.ref b])), (b, .inl (cI, 36, .inl (zPa n (nI p) (fun p => zKa (nI k) (fun k => if f (25 + p) = -9 then upd (upd f (20 + p) (f (20 + p) - pr)) (25 + p) (nI k) else f) f) f))), (x, .inr (0, [.ref xs, .int (nI cn), .int (nI nx)])), (xs, .inl (cI, 432, .inl sf))] H := Eq.subst (motive := fun zz_ => va_P D vwCl [(o, .inr (8, [.ref tx, .ref r, .ref a, .ref r2, .ref a2, .ref x, .ref y, .ref z, .ref v, .ref h, .long sd])), (r, .inr (3, [.ref ro, .ref rn, .ref rr, .int rt, .int fr, .int pr, .int (nI n), .int (nI m)])), (a, .inr (6, [.ref b])), (b, .inl (cI, 36, .inl zz_)), (x, .inr (0, [.ref xs, .int (nI cn), .int (nI nx)])), (xs, .inl (cI, 432, .inl sf))] H) e_22 hP
        have e_23 : nI cn = nI (zPa n (nI p) (fun p => zKa (nI k) (fun k => if f (25 + p) = -9 then zcn cn else cn) cn) cn) := by first | rw [zPa_n (by assumption)] | rw [zPa_y hp hn, zKa_n (by assumption)] | rw [zPa_y hp hn, zKa_y hk, if_pos (by assumption)] | rw [zPa_y hp hn, zKa_y hk, if_neg (by assumption)] | rw [zPa_y hp hn, zKa_y hk] | rw [zPa_y hp hn, if_pos (by assumption)] | rw [zPa_y hp hn, if_neg (by assumption)] | rw [zPa_y hp hn] | rfl
        have hP : va_P D vwCl [(o, .inr (8, [.ref tx, .ref r, .ref a, .ref r2, .ref a2, .ref x, .ref y, .ref z, .ref v, .ref h, .long sd])), (r, .inr (3, [.ref ro, .ref rn, .ref rr, .int rt, .int fr, .int pr, .int (nI n), .int (nI m)])), (a, .inr (6, [.ref b])), (b, .inl (cI, 36, .inl (zPa n (nI p) (fun p => zKa (nI k) (fun k => if f (25 + p) = -9 then upd (upd f (20 + p) (f (20 + p) - pr)) (25 + p) (nI k) else f) f) f))), (x, .inr (0, [.ref xs, .int (nI (zPa n (nI p) (fun p => zKa (nI k) (fun k => if f (25 + p) = -9 then zcn cn else cn) cn) cn)), .int (nI nx)])), (xs, .inl (cI, 432, .inl sf))] H := Eq.subst (motive := fun zz_ => va_P D vwCl [(o, .inr (8, [.ref tx, .ref r, .ref a, .ref r2, .ref a2, .ref x, .ref y, .ref z, .ref v, .ref h, .long sd])), (r, .inr (3, [.ref ro, .ref rn, .ref rr, .int rt, .int fr, .int pr, .int (nI n), .int (nI m)])), (a, .inr (6, [.ref b])), (b, .inl (cI, 36, .inl (zPa n (nI p) (fun p => zKa (nI k) (fun k => if f (25 + p) = -9 then upd (upd f (20 + p) (f (20 + p) - pr)) (25 + p) (nI k) else f) f) f))), (x, .inr (0, [.ref xs, .int zz_, .int (nI nx)])), (xs, .inl (cI, 432, .inl sf))] H) e_23 hP
        have e_24 : nI nx = nI (zPa n (nI p) (fun p => zKa (nI k) (fun k => if f (25 + p) = -9 then znx nx else nx) nx) nx) := by first | rw [zPa_n (by assumption)] | rw [zPa_y hp hn, zKa_n (by assumption)] | rw [zPa_y hp hn, zKa_y hk, if_pos (by assumption)] | rw [zPa_y hp hn, zKa_y hk, if_neg (by assumption)] | rw [zPa_y hp hn, zKa_y hk] | rw [zPa_y hp hn, if_pos (by assumption)] | rw [zPa_y hp hn, if_neg (by assumption)] | rw [zPa_y hp hn] | rfl
        have hP : va_P D vwCl [(o, .inr (8, [.ref tx, .ref r, .ref a, .ref r2, .ref a2, .ref x, .ref y, .ref z, .ref v, .ref h, .long sd])), (r, .inr (3, [.ref ro, .ref rn, .ref rr, .int rt, .int fr, .int pr, .int (nI n), .int (nI m)])), (a, .inr (6, [.ref b])), (b, .inl (cI, 36, .inl (zPa n (nI p) (fun p => zKa (nI k) (fun k => if f (25 + p) = -9 then upd (upd f (20 + p) (f (20 + p) - pr)) (25 + p) (nI k) else f) f) f))), (x, .inr (0, [.ref xs, .int (nI (zPa n (nI p) (fun p => zKa (nI k) (fun k => if f (25 + p) = -9 then zcn cn else cn) cn) cn)), .int (nI (zPa n (nI p) (fun p => zKa (nI k) (fun k => if f (25 + p) = -9 then znx nx else nx) nx) nx))])), (xs, .inl (cI, 432, .inl sf))] H := Eq.subst (motive := fun zz_ => va_P D vwCl [(o, .inr (8, [.ref tx, .ref r, .ref a, .ref r2, .ref a2, .ref x, .ref y, .ref z, .ref v, .ref h, .long sd])), (r, .inr (3, [.ref ro, .ref rn, .ref rr, .int rt, .int fr, .int pr, .int (nI n), .int (nI m)])), (a, .inr (6, [.ref b])), (b, .inl (cI, 36, .inl (zPa n (nI p) (fun p => zKa (nI k) (fun k => if f (25 + p) = -9 then upd (upd f (20 + p) (f (20 + p) - pr)) (25 + p) (nI k) else f) f) f))), (x, .inr (0, [.ref xs, .int (nI (zPa n (nI p) (fun p => zKa (nI k) (fun k => if f (25 + p) = -9 then zcn cn else cn) cn) cn)), .int zz_])), (xs, .inl (cI, 432, .inl sf))] H) e_24 hP
        have e_25 : sf = (zPa n (nI p) (fun p => zKa (nI k) (fun k => if f (25 + p) = -9 then va_cpy f sf 0 (nx * 36) 36 else sf) sf) sf) := by first | rw [zPa_n (by assumption)] | rw [zPa_y hp hn, zKa_n (by assumption)] | rw [zPa_y hp hn, zKa_y hk, if_pos (by assumption)] | rw [zPa_y hp hn, zKa_y hk, if_neg (by assumption)] | rw [zPa_y hp hn, zKa_y hk] | rw [zPa_y hp hn, if_pos (by assumption)] | rw [zPa_y hp hn, if_neg (by assumption)] | rw [zPa_y hp hn] | rfl
        have hP : va_P D vwCl [(o, .inr (8, [.ref tx, .ref r, .ref a, .ref r2, .ref a2, .ref x, .ref y, .ref z, .ref v, .ref h, .long sd])), (r, .inr (3, [.ref ro, .ref rn, .ref rr, .int rt, .int fr, .int pr, .int (nI n), .int (nI m)])), (a, .inr (6, [.ref b])), (b, .inl (cI, 36, .inl (zPa n (nI p) (fun p => zKa (nI k) (fun k => if f (25 + p) = -9 then upd (upd f (20 + p) (f (20 + p) - pr)) (25 + p) (nI k) else f) f) f))), (x, .inr (0, [.ref xs, .int (nI (zPa n (nI p) (fun p => zKa (nI k) (fun k => if f (25 + p) = -9 then zcn cn else cn) cn) cn)), .int (nI (zPa n (nI p) (fun p => zKa (nI k) (fun k => if f (25 + p) = -9 then znx nx else nx) nx) nx))])), (xs, .inl (cI, 432, .inl (zPa n (nI p) (fun p => zKa (nI k) (fun k => if f (25 + p) = -9 then va_cpy f sf 0 (nx * 36) 36 else sf) sf) sf)))] H := Eq.subst (motive := fun zz_ => va_P D vwCl [(o, .inr (8, [.ref tx, .ref r, .ref a, .ref r2, .ref a2, .ref x, .ref y, .ref z, .ref v, .ref h, .long sd])), (r, .inr (3, [.ref ro, .ref rn, .ref rr, .int rt, .int fr, .int pr, .int (nI n), .int (nI m)])), (a, .inr (6, [.ref b])), (b, .inl (cI, 36, .inl (zPa n (nI p) (fun p => zKa (nI k) (fun k => if f (25 + p) = -9 then upd (upd f (20 + p) (f (20 + p) - pr)) (25 + p) (nI k) else f) f) f))), (x, .inr (0, [.ref xs, .int (nI (zPa n (nI p) (fun p => zKa (nI k) (fun k => if f (25 + p) = -9 then zcn cn else cn) cn) cn)), .int (nI (zPa n (nI p) (fun p => zKa (nI k) (fun k => if f (25 + p) = -9 then znx nx else nx) nx) nx))])), (xs, .inl (cI, 432, .inl zz_))] H) e_25 hP
        have hD : va_D A [(o, .inr (8, [.ref tx, .ref r, .ref a, .ref r2, .ref a2, .ref x, .ref y, .ref z, .ref v, .ref h, .long sd])), (r, .inr (3, [.ref ro, .ref rn, .ref rr, .int rt, .int fr, .int pr, .int (nI n), .int (nI m)])), (a, .inr (6, [.ref b])), (b, .inl (cI, 36, .inl (zPa n (nI p) (fun p => zKa (nI k) (fun k => if f (25 + p) = -9 then upd (upd f (20 + p) (f (20 + p) - pr)) (25 + p) (nI k) else f) f) f))), (x, .inr (0, [.ref xs, .int (nI (zPa n (nI p) (fun p => zKa (nI k) (fun k => if f (25 + p) = -9 then zcn cn else cn) cn) cn)), .int (nI (zPa n (nI p) (fun p => zKa (nI k) (fun k => if f (25 + p) = -9 then znx nx else nx) nx) nx))])), (xs, .inl (cI, 432, .inl (zPa n (nI p) (fun p => zKa (nI k) (fun k => if f (25 + p) = -9 then va_cpy f sf 0 (nx * 36) 36 else sf) sf) sf)))] := zD_of hD rfl
        exact z_iret Z () (by first | rw [zPa_n (by assumption)] | rw [zPa_y hp hn, zKa_n (by assumption)] | rw [zPa_y hp hn, zKa_y hk, if_pos (by assumption)] | rw [zPa_y hp hn, zKa_y hk, if_neg (by assumption)] | rw [zPa_y hp hn, zKa_y hk] | rw [zPa_y hp hn, if_pos (by assumption)] | rw [zPa_y hp hn, if_neg (by assumption)] | rw [zPa_y hp hn] | rfl) hP hS dX8_declare_38
    · have c_6 := zb0 c_6
      refine lv_bipush (v := -2) hx hb dX8_declare_20 (by decide) ?_
      have e_26 : f = (zPa n (nI p) (fun p => zKa x2 (fun k => if f (25 + p) = -9 then upd (upd f (20 + p) (f (20 + p) - pr)) (25 + p) (nI k) else f) f) f) := by first | rw [zPa_n (by assumption)] | rw [zPa_y hp hn, zKa_n (by assumption)] | rw [zPa_y hp hn, zKa_y hk, if_pos (by assumption)] | rw [zPa_y hp hn, zKa_y hk, if_neg (by assumption)] | rw [zPa_y hp hn, zKa_y hk] | rw [zPa_y hp hn, if_pos (by assumption)] | rw [zPa_y hp hn, if_neg (by assumption)] | rw [zPa_y hp hn] | rfl
      have hP : va_P D vwCl [(o, .inr (8, [.ref tx, .ref r, .ref a, .ref r2, .ref a2, .ref x, .ref y, .ref z, .ref v, .ref h, .long sd])), (r, .inr (3, [.ref ro, .ref rn, .ref rr, .int rt, .int fr, .int pr, .int (nI n), .int (nI m)])), (a, .inr (6, [.ref b])), (b, .inl (cI, 36, .inl (zPa n (nI p) (fun p => zKa x2 (fun k => if f (25 + p) = -9 then upd (upd f (20 + p) (f (20 + p) - pr)) (25 + p) (nI k) else f) f) f))), (x, .inr (0, [.ref xs, .int (nI cn), .int (nI nx)])), (xs, .inl (cI, 432, .inl sf))] H := Eq.subst (motive := fun zz_ => va_P D vwCl [(o, .inr (8, [.ref tx, .ref r, .ref a, .ref r2, .ref a2, .ref x, .ref y, .ref z, .ref v, .ref h, .long sd])), (r, .inr (3, [.ref ro, .ref rn, .ref rr, .int rt, .int fr, .int pr, .int (nI n), .int (nI m)])), (a, .inr (6, [.ref b])), (b, .inl (cI, 36, .inl zz_)), (x, .inr (0, [.ref xs, .int (nI cn), .int (nI nx)])), (xs, .inl (cI, 432, .inl sf))] H) e_26 hP
      have e_27 : nI cn = nI (zPa n (nI p) (fun p => zKa x2 (fun k => if f (25 + p) = -9 then zcn cn else cn) cn) cn) := by first | rw [zPa_n (by assumption)] | rw [zPa_y hp hn, zKa_n (by assumption)] | rw [zPa_y hp hn, zKa_y hk, if_pos (by assumption)] | rw [zPa_y hp hn, zKa_y hk, if_neg (by assumption)] | rw [zPa_y hp hn, zKa_y hk] | rw [zPa_y hp hn, if_pos (by assumption)] | rw [zPa_y hp hn, if_neg (by assumption)] | rw [zPa_y hp hn] | rfl
      have hP : va_P D vwCl [(o, .inr (8, [.ref tx, .ref r, .ref a, .ref r2, .ref a2, .ref x, .ref y, .ref z, .ref v, .ref h, .long sd])), (r, .inr (3, [.ref ro, .ref rn, .ref rr, .int rt, .int fr, .int pr, .int (nI n), .int (nI m)])), (a, .inr (6, [.ref b])), (b, .inl (cI, 36, .inl (zPa n (nI p) (fun p => zKa x2 (fun k => if f (25 + p) = -9 then upd (upd f (20 + p) (f (20 + p) - pr)) (25 + p) (nI k) else f) f) f))), (x, .inr (0, [.ref xs, .int (nI (zPa n (nI p) (fun p => zKa x2 (fun k => if f (25 + p) = -9 then zcn cn else cn) cn) cn)), .int (nI nx)])), (xs, .inl (cI, 432, .inl sf))] H := Eq.subst (motive := fun zz_ => va_P D vwCl [(o, .inr (8, [.ref tx, .ref r, .ref a, .ref r2, .ref a2, .ref x, .ref y, .ref z, .ref v, .ref h, .long sd])), (r, .inr (3, [.ref ro, .ref rn, .ref rr, .int rt, .int fr, .int pr, .int (nI n), .int (nI m)])), (a, .inr (6, [.ref b])), (b, .inl (cI, 36, .inl (zPa n (nI p) (fun p => zKa x2 (fun k => if f (25 + p) = -9 then upd (upd f (20 + p) (f (20 + p) - pr)) (25 + p) (nI k) else f) f) f))), (x, .inr (0, [.ref xs, .int zz_, .int (nI nx)])), (xs, .inl (cI, 432, .inl sf))] H) e_27 hP
      have e_28 : nI nx = nI (zPa n (nI p) (fun p => zKa x2 (fun k => if f (25 + p) = -9 then znx nx else nx) nx) nx) := by first | rw [zPa_n (by assumption)] | rw [zPa_y hp hn, zKa_n (by assumption)] | rw [zPa_y hp hn, zKa_y hk, if_pos (by assumption)] | rw [zPa_y hp hn, zKa_y hk, if_neg (by assumption)] | rw [zPa_y hp hn, zKa_y hk] | rw [zPa_y hp hn, if_pos (by assumption)] | rw [zPa_y hp hn, if_neg (by assumption)] | rw [zPa_y hp hn] | rfl
      have hP : va_P D vwCl [(o, .inr (8, [.ref tx, .ref r, .ref a, .ref r2, .ref a2, .ref x, .ref y, .ref z, .ref v, .ref h, .long sd])), (r, .inr (3, [.ref ro, .ref rn, .ref rr, .int rt, .int fr, .int pr, .int (nI n), .int (nI m)])), (a, .inr (6, [.ref b])), (b, .inl (cI, 36, .inl (zPa n (nI p) (fun p => zKa x2 (fun k => if f (25 + p) = -9 then upd (upd f (20 + p) (f (20 + p) - pr)) (25 + p) (nI k) else f) f) f))), (x, .inr (0, [.ref xs, .int (nI (zPa n (nI p) (fun p => zKa x2 (fun k => if f (25 + p) = -9 then zcn cn else cn) cn) cn)), .int (nI (zPa n (nI p) (fun p => zKa x2 (fun k => if f (25 + p) = -9 then znx nx else nx) nx) nx))])), (xs, .inl (cI, 432, .inl sf))] H := Eq.subst (motive := fun zz_ => va_P D vwCl [(o, .inr (8, [.ref tx, .ref r, .ref a, .ref r2, .ref a2, .ref x, .ref y, .ref z, .ref v, .ref h, .long sd])), (r, .inr (3, [.ref ro, .ref rn, .ref rr, .int rt, .int fr, .int pr, .int (nI n), .int (nI m)])), (a, .inr (6, [.ref b])), (b, .inl (cI, 36, .inl (zPa n (nI p) (fun p => zKa x2 (fun k => if f (25 + p) = -9 then upd (upd f (20 + p) (f (20 + p) - pr)) (25 + p) (nI k) else f) f) f))), (x, .inr (0, [.ref xs, .int (nI (zPa n (nI p) (fun p => zKa x2 (fun k => if f (25 + p) = -9 then zcn cn else cn) cn) cn)), .int zz_])), (xs, .inl (cI, 432, .inl sf))] H) e_28 hP
      have e_29 : sf = (zPa n (nI p) (fun p => zKa x2 (fun k => if f (25 + p) = -9 then va_cpy f sf 0 (nx * 36) 36 else sf) sf) sf) := by first | rw [zPa_n (by assumption)] | rw [zPa_y hp hn, zKa_n (by assumption)] | rw [zPa_y hp hn, zKa_y hk, if_pos (by assumption)] | rw [zPa_y hp hn, zKa_y hk, if_neg (by assumption)] | rw [zPa_y hp hn, zKa_y hk] | rw [zPa_y hp hn, if_pos (by assumption)] | rw [zPa_y hp hn, if_neg (by assumption)] | rw [zPa_y hp hn] | rfl
      have hP : va_P D vwCl [(o, .inr (8, [.ref tx, .ref r, .ref a, .ref r2, .ref a2, .ref x, .ref y, .ref z, .ref v, .ref h, .long sd])), (r, .inr (3, [.ref ro, .ref rn, .ref rr, .int rt, .int fr, .int pr, .int (nI n), .int (nI m)])), (a, .inr (6, [.ref b])), (b, .inl (cI, 36, .inl (zPa n (nI p) (fun p => zKa x2 (fun k => if f (25 + p) = -9 then upd (upd f (20 + p) (f (20 + p) - pr)) (25 + p) (nI k) else f) f) f))), (x, .inr (0, [.ref xs, .int (nI (zPa n (nI p) (fun p => zKa x2 (fun k => if f (25 + p) = -9 then zcn cn else cn) cn) cn)), .int (nI (zPa n (nI p) (fun p => zKa x2 (fun k => if f (25 + p) = -9 then znx nx else nx) nx) nx))])), (xs, .inl (cI, 432, .inl (zPa n (nI p) (fun p => zKa x2 (fun k => if f (25 + p) = -9 then va_cpy f sf 0 (nx * 36) 36 else sf) sf) sf)))] H := Eq.subst (motive := fun zz_ => va_P D vwCl [(o, .inr (8, [.ref tx, .ref r, .ref a, .ref r2, .ref a2, .ref x, .ref y, .ref z, .ref v, .ref h, .long sd])), (r, .inr (3, [.ref ro, .ref rn, .ref rr, .int rt, .int fr, .int pr, .int (nI n), .int (nI m)])), (a, .inr (6, [.ref b])), (b, .inl (cI, 36, .inl (zPa n (nI p) (fun p => zKa x2 (fun k => if f (25 + p) = -9 then upd (upd f (20 + p) (f (20 + p) - pr)) (25 + p) (nI k) else f) f) f))), (x, .inr (0, [.ref xs, .int (nI (zPa n (nI p) (fun p => zKa x2 (fun k => if f (25 + p) = -9 then zcn cn else cn) cn) cn)), .int (nI (zPa n (nI p) (fun p => zKa x2 (fun k => if f (25 + p) = -9 then znx nx else nx) nx) nx))])), (xs, .inl (cI, 432, .inl zz_))] H) e_29 hP
      have hD : va_D A [(o, .inr (8, [.ref tx, .ref r, .ref a, .ref r2, .ref a2, .ref x, .ref y, .ref z, .ref v, .ref h, .long sd])), (r, .inr (3, [.ref ro, .ref rn, .ref rr, .int rt, .int fr, .int pr, .int (nI n), .int (nI m)])), (a, .inr (6, [.ref b])), (b, .inl (cI, 36, .inl (zPa n (nI p) (fun p => zKa x2 (fun k => if f (25 + p) = -9 then upd (upd f (20 + p) (f (20 + p) - pr)) (25 + p) (nI k) else f) f) f))), (x, .inr (0, [.ref xs, .int (nI (zPa n (nI p) (fun p => zKa x2 (fun k => if f (25 + p) = -9 then zcn cn else cn) cn) cn)), .int (nI (zPa n (nI p) (fun p => zKa x2 (fun k => if f (25 + p) = -9 then znx nx else nx) nx) nx))])), (xs, .inl (cI, 432, .inl (zPa n (nI p) (fun p => zKa x2 (fun k => if f (25 + p) = -9 then va_cpy f sf 0 (nx * 36) 36 else sf) sf) sf)))] := zD_of hD rfl
      exact z_iret Z () (by first | rw [zPa_n (by assumption)] | rw [zPa_y hp hn, zKa_n (by assumption)] | rw [zPa_y hp hn, zKa_y hk, if_pos (by assumption)] | rw [zPa_y hp hn, zKa_y hk, if_neg (by assumption)] | rw [zPa_y hp hn, zKa_y hk] | rw [zPa_y hp hn, if_pos (by assumption)] | rw [zPa_y hp hn, if_neg (by assumption)] | rw [zPa_y hp hn] | rfl) hP hS dX8_declare_22
  · have c_3 := zb0 c_3
    refine lv_iconst (v := -1) hx hb dX8_declare_11 (by decide) ?_
    have e_30 : f = (zPa n x1 (fun p => zKa x2 (fun k => if f (25 + p) = -9 then upd (upd f (20 + p) (f (20 + p) - pr)) (25 + p) (nI k) else f) f) f) := by first | rw [zPa_n (by assumption)] | rw [zPa_y hp hn, zKa_n (by assumption)] | rw [zPa_y hp hn, zKa_y hk, if_pos (by assumption)] | rw [zPa_y hp hn, zKa_y hk, if_neg (by assumption)] | rw [zPa_y hp hn, zKa_y hk] | rw [zPa_y hp hn, if_pos (by assumption)] | rw [zPa_y hp hn, if_neg (by assumption)] | rw [zPa_y hp hn] | rfl
    have hP : va_P D vwCl [(o, .inr (8, [.ref tx, .ref r, .ref a, .ref r2, .ref a2, .ref x, .ref y, .ref z, .ref v, .ref h, .long sd])), (r, .inr (3, [.ref ro, .ref rn, .ref rr, .int rt, .int fr, .int pr, .int (nI n), .int (nI m)])), (a, .inr (6, [.ref b])), (b, .inl (cI, 36, .inl (zPa n x1 (fun p => zKa x2 (fun k => if f (25 + p) = -9 then upd (upd f (20 + p) (f (20 + p) - pr)) (25 + p) (nI k) else f) f) f))), (x, .inr (0, [.ref xs, .int (nI cn), .int (nI nx)])), (xs, .inl (cI, 432, .inl sf))] H := Eq.subst (motive := fun zz_ => va_P D vwCl [(o, .inr (8, [.ref tx, .ref r, .ref a, .ref r2, .ref a2, .ref x, .ref y, .ref z, .ref v, .ref h, .long sd])), (r, .inr (3, [.ref ro, .ref rn, .ref rr, .int rt, .int fr, .int pr, .int (nI n), .int (nI m)])), (a, .inr (6, [.ref b])), (b, .inl (cI, 36, .inl zz_)), (x, .inr (0, [.ref xs, .int (nI cn), .int (nI nx)])), (xs, .inl (cI, 432, .inl sf))] H) e_30 hP
    have e_31 : nI cn = nI (zPa n x1 (fun p => zKa x2 (fun k => if f (25 + p) = -9 then zcn cn else cn) cn) cn) := by first | rw [zPa_n (by assumption)] | rw [zPa_y hp hn, zKa_n (by assumption)] | rw [zPa_y hp hn, zKa_y hk, if_pos (by assumption)] | rw [zPa_y hp hn, zKa_y hk, if_neg (by assumption)] | rw [zPa_y hp hn, zKa_y hk] | rw [zPa_y hp hn, if_pos (by assumption)] | rw [zPa_y hp hn, if_neg (by assumption)] | rw [zPa_y hp hn] | rfl
    have hP : va_P D vwCl [(o, .inr (8, [.ref tx, .ref r, .ref a, .ref r2, .ref a2, .ref x, .ref y, .ref z, .ref v, .ref h, .long sd])), (r, .inr (3, [.ref ro, .ref rn, .ref rr, .int rt, .int fr, .int pr, .int (nI n), .int (nI m)])), (a, .inr (6, [.ref b])), (b, .inl (cI, 36, .inl (zPa n x1 (fun p => zKa x2 (fun k => if f (25 + p) = -9 then upd (upd f (20 + p) (f (20 + p) - pr)) (25 + p) (nI k) else f) f) f))), (x, .inr (0, [.ref xs, .int (nI (zPa n x1 (fun p => zKa x2 (fun k => if f (25 + p) = -9 then zcn cn else cn) cn) cn)), .int (nI nx)])), (xs, .inl (cI, 432, .inl sf))] H := Eq.subst (motive := fun zz_ => va_P D vwCl [(o, .inr (8, [.ref tx, .ref r, .ref a, .ref r2, .ref a2, .ref x, .ref y, .ref z, .ref v, .ref h, .long sd])), (r, .inr (3, [.ref ro, .ref rn, .ref rr, .int rt, .int fr, .int pr, .int (nI n), .int (nI m)])), (a, .inr (6, [.ref b])), (b, .inl (cI, 36, .inl (zPa n x1 (fun p => zKa x2 (fun k => if f (25 + p) = -9 then upd (upd f (20 + p) (f (20 + p) - pr)) (25 + p) (nI k) else f) f) f))), (x, .inr (0, [.ref xs, .int zz_, .int (nI nx)])), (xs, .inl (cI, 432, .inl sf))] H) e_31 hP
    have e_32 : nI nx = nI (zPa n x1 (fun p => zKa x2 (fun k => if f (25 + p) = -9 then znx nx else nx) nx) nx) := by first | rw [zPa_n (by assumption)] | rw [zPa_y hp hn, zKa_n (by assumption)] | rw [zPa_y hp hn, zKa_y hk, if_pos (by assumption)] | rw [zPa_y hp hn, zKa_y hk, if_neg (by assumption)] | rw [zPa_y hp hn, zKa_y hk] | rw [zPa_y hp hn, if_pos (by assumption)] | rw [zPa_y hp hn, if_neg (by assumption)] | rw [zPa_y hp hn] | rfl
    have hP : va_P D vwCl [(o, .inr (8, [.ref tx, .ref r, .ref a, .ref r2, .ref a2, .ref x, .ref y, .ref z, .ref v, .ref h, .long sd])), (r, .inr (3, [.ref ro, .ref rn, .ref rr, .int rt, .int fr, .int pr, .int (nI n), .int (nI m)])), (a, .inr (6, [.ref b])), (b, .inl (cI, 36, .inl (zPa n x1 (fun p => zKa x2 (fun k => if f (25 + p) = -9 then upd (upd f (20 + p) (f (20 + p) - pr)) (25 + p) (nI k) else f) f) f))), (x, .inr (0, [.ref xs, .int (nI (zPa n x1 (fun p => zKa x2 (fun k => if f (25 + p) = -9 then zcn cn else cn) cn) cn)), .int (nI (zPa n x1 (fun p => zKa x2 (fun k => if f (25 + p) = -9 then znx nx else nx) nx) nx))])), (xs, .inl (cI, 432, .inl sf))] H := Eq.subst (motive := fun zz_ => va_P D vwCl [(o, .inr (8, [.ref tx, .ref r, .ref a, .ref r2, .ref a2, .ref x, .ref y, .ref z, .ref v, .ref h, .long sd])), (r, .inr (3, [.ref ro, .ref rn, .ref rr, .int rt, .int fr, .int pr, .int (nI n), .int (nI m)])), (a, .inr (6, [.ref b])), (b, .inl (cI, 36, .inl (zPa n x1 (fun p => zKa x2 (fun k => if f (25 + p) = -9 then upd (upd f (20 + p) (f (20 + p) - pr)) (25 + p) (nI k) else f) f) f))), (x, .inr (0, [.ref xs, .int (nI (zPa n x1 (fun p => zKa x2 (fun k => if f (25 + p) = -9 then zcn cn else cn) cn) cn)), .int zz_])), (xs, .inl (cI, 432, .inl sf))] H) e_32 hP
    have e_33 : sf = (zPa n x1 (fun p => zKa x2 (fun k => if f (25 + p) = -9 then va_cpy f sf 0 (nx * 36) 36 else sf) sf) sf) := by first | rw [zPa_n (by assumption)] | rw [zPa_y hp hn, zKa_n (by assumption)] | rw [zPa_y hp hn, zKa_y hk, if_pos (by assumption)] | rw [zPa_y hp hn, zKa_y hk, if_neg (by assumption)] | rw [zPa_y hp hn, zKa_y hk] | rw [zPa_y hp hn, if_pos (by assumption)] | rw [zPa_y hp hn, if_neg (by assumption)] | rw [zPa_y hp hn] | rfl
    have hP : va_P D vwCl [(o, .inr (8, [.ref tx, .ref r, .ref a, .ref r2, .ref a2, .ref x, .ref y, .ref z, .ref v, .ref h, .long sd])), (r, .inr (3, [.ref ro, .ref rn, .ref rr, .int rt, .int fr, .int pr, .int (nI n), .int (nI m)])), (a, .inr (6, [.ref b])), (b, .inl (cI, 36, .inl (zPa n x1 (fun p => zKa x2 (fun k => if f (25 + p) = -9 then upd (upd f (20 + p) (f (20 + p) - pr)) (25 + p) (nI k) else f) f) f))), (x, .inr (0, [.ref xs, .int (nI (zPa n x1 (fun p => zKa x2 (fun k => if f (25 + p) = -9 then zcn cn else cn) cn) cn)), .int (nI (zPa n x1 (fun p => zKa x2 (fun k => if f (25 + p) = -9 then znx nx else nx) nx) nx))])), (xs, .inl (cI, 432, .inl (zPa n x1 (fun p => zKa x2 (fun k => if f (25 + p) = -9 then va_cpy f sf 0 (nx * 36) 36 else sf) sf) sf)))] H := Eq.subst (motive := fun zz_ => va_P D vwCl [(o, .inr (8, [.ref tx, .ref r, .ref a, .ref r2, .ref a2, .ref x, .ref y, .ref z, .ref v, .ref h, .long sd])), (r, .inr (3, [.ref ro, .ref rn, .ref rr, .int rt, .int fr, .int pr, .int (nI n), .int (nI m)])), (a, .inr (6, [.ref b])), (b, .inl (cI, 36, .inl (zPa n x1 (fun p => zKa x2 (fun k => if f (25 + p) = -9 then upd (upd f (20 + p) (f (20 + p) - pr)) (25 + p) (nI k) else f) f) f))), (x, .inr (0, [.ref xs, .int (nI (zPa n x1 (fun p => zKa x2 (fun k => if f (25 + p) = -9 then zcn cn else cn) cn) cn)), .int (nI (zPa n x1 (fun p => zKa x2 (fun k => if f (25 + p) = -9 then znx nx else nx) nx) nx))])), (xs, .inl (cI, 432, .inl zz_))] H) e_33 hP
    have hD : va_D A [(o, .inr (8, [.ref tx, .ref r, .ref a, .ref r2, .ref a2, .ref x, .ref y, .ref z, .ref v, .ref h, .long sd])), (r, .inr (3, [.ref ro, .ref rn, .ref rr, .int rt, .int fr, .int pr, .int (nI n), .int (nI m)])), (a, .inr (6, [.ref b])), (b, .inl (cI, 36, .inl (zPa n x1 (fun p => zKa x2 (fun k => if f (25 + p) = -9 then upd (upd f (20 + p) (f (20 + p) - pr)) (25 + p) (nI k) else f) f) f))), (x, .inr (0, [.ref xs, .int (nI (zPa n x1 (fun p => zKa x2 (fun k => if f (25 + p) = -9 then zcn cn else cn) cn) cn)), .int (nI (zPa n x1 (fun p => zKa x2 (fun k => if f (25 + p) = -9 then znx nx else nx) nx) nx))])), (xs, .inl (cI, 432, .inl (zPa n x1 (fun p => zKa x2 (fun k => if f (25 + p) = -9 then va_cpy f sf 0 (nx * 36) 36 else sf) sf) sf)))] := zD_of hD rfl
    exact z_iret Z () (by first | rw [zPa_n (by assumption)] | rw [zPa_y hp hn, zKa_n (by assumption)] | rw [zPa_y hp hn, zKa_y hk, if_pos (by assumption)] | rw [zPa_y hp hn, zKa_y hk, if_neg (by assumption)] | rw [zPa_y hp hn, zKa_y hk] | rw [zPa_y hp hn, if_pos (by assumption)] | rw [zPa_y hp hn, if_neg (by assumption)] | rw [zPa_y hp hn] | rfl) hP hS dX8_declare_12

theorem dX8_tellOn_0 : decode cX8_tellOn 0 = .ok (.aload_n 0, 1) := by decide +kernel
theorem dX8_tellOn_1 : decode cX8_tellOn 1 = .ok (.getfield 19, 3) := by decide +kernel
theorem dX8_tellOn_4 : decode cX8_tellOn 4 = .ok (.iload_n 1, 1) := by decide +kernel
theorem dX8_tellOn_5 : decode cX8_tellOn 5 = .ok (.invokevirtual 126, 3) := by decide +kernel
theorem dX8_tellOn_8 : decode cX8_tellOn 8 = .ok (.ifCond .eq 14, 3) := by decide +kernel
theorem dX8_tellOn_11 : decode cX8_tellOn 11 = .ok (.aload_n 0, 1) := by decide +kernel
theorem dX8_tellOn_12 : decode cX8_tellOn 12 = .ok (.getfield 19, 3) := by decide +kernel
theorem dX8_tellOn_15 : decode cX8_tellOn 15 = .ok (.iload_n 2, 1) := by decide +kernel
theorem dX8_tellOn_16 : decode cX8_tellOn 16 = .ok (.invokevirtual 126, 3) := by decide +kernel
theorem dX8_tellOn_19 : decode cX8_tellOn 19 = .ok (.ifCond .ne 5, 3) := by decide +kernel
theorem dX8_tellOn_22 : decode cX8_tellOn 22 = .ok (.iconst (-1), 1) := by decide +kernel
theorem dX8_tellOn_23 : decode cX8_tellOn 23 = .ok (.ireturn, 1) := by decide +kernel
theorem dX8_tellOn_24 : decode cX8_tellOn 24 = .ok (.aload_n 0, 1) := by decide +kernel
theorem dX8_tellOn_25 : decode cX8_tellOn 25 = .ok (.getfield 26, 3) := by decide +kernel
theorem dX8_tellOn_28 : decode cX8_tellOn 28 = .ok (.iload_n 1, 1) := by decide +kernel
theorem dX8_tellOn_29 : decode cX8_tellOn 29 = .ok (.invokevirtual 145, 3) := by decide +kernel
theorem dX8_tellOn_32 : decode cX8_tellOn 32 = .ok (.istore_n 3, 1) := by decide +kernel
theorem dX8_tellOn_33 : decode cX8_tellOn 33 = .ok (.iload_n 3, 1) := by decide +kernel
theorem dX8_tellOn_34 : decode cX8_tellOn 34 = .ok (.bipush (-9), 2) := by decide +kernel
theorem dX8_tellOn_36 : decode cX8_tellOn 36 = .ok (.if_icmp .eq 26, 3) := by decide +kernel
theorem dX8_tellOn_39 : decode cX8_tellOn 39 = .ok (.aload_n 0, 1) := by decide +kernel
theorem dX8_tellOn_40 : decode cX8_tellOn 40 = .ok (.getfield 19, 3) := by decide +kernel
theorem dX8_tellOn_43 : decode cX8_tellOn 43 = .ok (.iload_n 1, 1) := by decide +kernel
theorem dX8_tellOn_44 : decode cX8_tellOn 44 = .ok (.iload_n 2, 1) := by decide +kernel
theorem dX8_tellOn_45 : decode cX8_tellOn 45 = .ok (.invokevirtual 165, 3) := by decide +kernel
theorem dX8_tellOn_48 : decode cX8_tellOn 48 = .ok (.ifCond .eq 14, 3) := by decide +kernel
theorem dX8_tellOn_51 : decode cX8_tellOn 51 = .ok (.aload_n 0, 1) := by decide +kernel
theorem dX8_tellOn_52 : decode cX8_tellOn 52 = .ok (.getfield 26, 3) := by decide +kernel
theorem dX8_tellOn_55 : decode cX8_tellOn 55 = .ok (.iload_n 2, 1) := by decide +kernel
theorem dX8_tellOn_56 : decode cX8_tellOn 56 = .ok (.invokevirtual 169, 3) := by decide +kernel
theorem dX8_tellOn_59 : decode cX8_tellOn 59 = .ok (.ifCond .ne 6, 3) := by decide +kernel
theorem dX8_tellOn_62 : decode cX8_tellOn 62 = .ok (.bipush (-3), 2) := by decide +kernel
theorem dX8_tellOn_64 : decode cX8_tellOn 64 = .ok (.ireturn, 1) := by decide +kernel
theorem dX8_tellOn_65 : decode cX8_tellOn 65 = .ok (.aload_n 0, 1) := by decide +kernel
theorem dX8_tellOn_66 : decode cX8_tellOn 66 = .ok (.getfield 39, 3) := by decide +kernel
theorem dX8_tellOn_69 : decode cX8_tellOn 69 = .ok (.aload_n 0, 1) := by decide +kernel
theorem dX8_tellOn_70 : decode cX8_tellOn 70 = .ok (.getfield 26, 3) := by decide +kernel
theorem dX8_tellOn_73 : decode cX8_tellOn 73 = .ok (.invokevirtual 154, 3) := by decide +kernel
theorem dX8_tellOn_76 : decode cX8_tellOn 76 = .ok (.aload_n 0, 1) := by decide +kernel
theorem dX8_tellOn_77 : decode cX8_tellOn 77 = .ok (.getfield 26, 3) := by decide +kernel
theorem dX8_tellOn_80 : decode cX8_tellOn 80 = .ok (.iload_n 2, 1) := by decide +kernel
theorem dX8_tellOn_81 : decode cX8_tellOn 81 = .ok (.iload_n 3, 1) := by decide +kernel
theorem dX8_tellOn_82 : decode cX8_tellOn 82 = .ok (.invokevirtual 172, 3) := by decide +kernel
theorem dX8_tellOn_85 : decode cX8_tellOn 85 = .ok (.iload_n 3, 1) := by decide +kernel
theorem dX8_tellOn_86 : decode cX8_tellOn 86 = .ok (.ireturn, 1) := by decide +kernel
theorem zd_X8_tellOn : yX8_tellOn.cls ≠ "java/lang/invoke/MethodHandle" ∧ yX8_tellOn.cls ≠ "java/lang/invoke/VarHandle" ∧ (parseMethodDescriptor yX8_tellOn.desc).map (fun d => d.parameters.length) = some 2 := by decide +kernel
set_option maxHeartbeats 4000000 in
set_option maxRecDepth 100000 in
theorem zc_X8_tellOn (l : Launch) (D : va_G) (cI cZ : ClassId) (o : Nat) (tx : Nat) (r : Nat) (a : Nat) (r2 : Nat) (a2 : Nat) (x : Nat) (y : Nat) (z : Nat) (v : Nat) (h : Nat) (sd : Int64) (ro : Nat) (rn : Nat) (rr : Nat) (rt : Int32) (fr : Int32) (pr : Int32) (n : Nat) (m : Nat) (rd : Nat → Int32) (b : Nat) (f : Nat → Int32) (xs : Nat) (cn : Nat) (nx : Nat) (sf : Nat → Int32) (x1 : Int32) (x2 : Int32) (hn : n ≤ 5) (hcn : cn ≤ 12) (hnx : nx < 12) : zI l yX8_tellOn cX8_tellOn 4 .int 3 61 D cI cZ [.ref o, .int x1, .int x2] [(o, .inr (8, [.ref tx, .ref r, .ref a, .ref r2, .ref a2, .ref x, .ref y, .ref z, .ref v, .ref h, .long sd])), (r, .inr (3, [.ref ro, .ref rn, .ref rr, .int rt, .int fr, .int pr, .int (nI n), .int (nI m)])), (rr, .inl (cI, 5, .inl rd)), (a, .inr (6, [.ref b])), (b, .inl (cI, 36, .inl f)), (x, .inr (0, [.ref xs, .int (nI cn), .int (nI nx)])), (xs, .inl (cI, 432, .inl sf))] (fun (r : Int32) (u : Unit) => r = zPa n x1 (fun p => zPa n x2 (fun q => if zTO f rd p q then f (25 + p) else -3) (-1)) (-1)) (fun (u : Unit) => [(o, .inr (8, [.ref tx, .ref r, .ref a, .ref r2, .ref a2, .ref x, .ref y, .ref z, .ref v, .ref h, .long sd])), (r, .inr (3, [.ref ro, .ref rn, .ref rr, .int rt, .int fr, .int pr, .int (nI n), .int (nI m)])), (rr, .inl (cI, 5, .inl rd)), (a, .inr (6, [.ref b])), (b, .inl (cI, 36, .inl (zPa n x1 (fun p => zPa n x2 (fun q => if zTO f rd p q then upd f (30 + q) (f (25 + p)) else f) f) f))), (x, .inr (0, [.ref xs, .int (nI (zPa n x1 (fun p => zPa n x2 (fun q => if zTO f rd p q then zcn cn else cn) cn) cn)), .int (nI (zPa n x1 (fun p => zPa n x2 (fun q => if zTO f rd p q then znx nx else nx) nx) nx))])), (xs, .inl (cI, 432, .inl (zPa n x1 (fun p => zPa n x2 (fun q => if zTO f rd p q then va_cpy f sf 0 (nx * 36) 36 else sf) sf) sf)))]) := by
  refine zI_of (by decide) (Nat.le_of_ble_eq_true rfl) ?_
  intro pP eE sS mM aA bB mT cC A ls Z hP hD hS hl
  have hx := Z.1
  have hb := Z.2.1
  have hown := Z.2.2.2.2.2.1
  have hts := Z.2.2.2.2.1
  have Z : zAt pP sS mM aA mT cC D cI cZ A "SurpriseTax" cX8_tellOn 4 (some .int) := Z
  have hl : lv_has ls 4 [(0, .ref o), (1, .int x1), (2, .int x2)] := hl
  obtain ⟨H, hH⟩ : ∃ H, H = sS.heap := ⟨_, rfl⟩
  have hP : va_P D vwCl [(o, .inr (8, [.ref tx, .ref r, .ref a, .ref r2, .ref a2, .ref x, .ref y, .ref z, .ref v, .ref h, .long sd])), (r, .inr (3, [.ref ro, .ref rn, .ref rr, .int rt, .int fr, .int pr, .int (nI n), .int (nI m)])), (rr, .inl (cI, 5, .inl rd)), (a, .inr (6, [.ref b])), (b, .inl (cI, 36, .inl f)), (x, .inr (0, [.ref xs, .int (nI cn), .int (nI nx)])), (xs, .inl (cI, 432, .inl sf))] H := by rw [hH]; exact hP
  have hS : va_S A sS.heap H [] := by rw [hH]; exact hS
  rw [← hH]
  clear hH
  obtain ⟨locs, hlo⟩ : ∃ q : List Loc, q = [] := ⟨_, rfl⟩
  rw [← hlo] at hS ⊢
  clear hlo
  refine lv_aload_n hx hb dX8_tellOn_0 rfl (lv_at hl 0 rfl) ?_
  refine z_get (ci := 8) (v := .ref r) Z zin8 hP 0 rfl rfl 1 (by decide) zm175 rfl rfl dX8_tellOn_1 ?_
  refine lv_iload_n hx hb dX8_tellOn_4 rfl (lv_at hl 1 rfl) ?_
  refine z_callVi (As := [.int x1]) (rest := []) (ci := 3) (k0 := 0) Z hP hD hS hl.1 (zc_X3_has l D cI cZ r ro rn rr rt fr pr n m x1 ) zm329 zm270 zm271 zm32 zm272 ⟨rfl, zd_X3_has⟩ ⟨Nat.le_of_ble_eq_true rfl, Nat.le_of_ble_eq_true rfl⟩ ⟨Nat.zero_le _, Nat.zero_le _⟩ [1] rfl (by decide) rfl rfl rfl (fun _ => rfl) rfl (Nat.le_of_ble_eq_true rfl) rfl dX8_tellOn_5 (fun r_1 u H locs h_2 hP hD hS => ?_)
  have hP : va_P D vwCl [(o, .inr (8, [.ref tx, .ref r, .ref a, .ref r2, .ref a2, .ref x, .ref y, .ref z, .ref v, .ref h, .long sd])), (r, .inr (3, [.ref ro, .ref rn, .ref rr, .int rt, .int fr, .int pr, .int (nI n), .int (nI m)])), (rr, .inl (cI, 5, .inl rd)), (a, .inr (6, [.ref b])), (b, .inl (cI, 36, .inl f)), (x, .inr (0, [.ref xs, .int (nI cn), .int (nI nx)])), (xs, .inl (cI, 432, .inl sf))] H := hP
  have hD : va_D A [(o, .inr (8, [.ref tx, .ref r, .ref a, .ref r2, .ref a2, .ref x, .ref y, .ref z, .ref v, .ref h, .long sd])), (r, .inr (3, [.ref ro, .ref rn, .ref rr, .int rt, .int fr, .int pr, .int (nI n), .int (nI m)])), (rr, .inl (cI, 5, .inl rd)), (a, .inr (6, [.ref b])), (b, .inl (cI, 36, .inl f)), (x, .inr (0, [.ref xs, .int (nI cn), .int (nI nx)])), (xs, .inl (cI, 432, .inl sf))] := hD
  have h_2 : r_1 = if zhas n x1 then 1 else 0 := h_2
  subst h_2
  refine lv_if_eq (tgt := 22) hx hb dX8_tellOn_8 (by decide) (fun c_3 => ?_) (fun c_3 => ?_)
  · have c_3 := zb0 c_3
    refine lv_iconst (v := -1) hx hb dX8_tellOn_22 (by decide) ?_
    have e_4 : f = (zPa n x1 (fun p => zPa n x2 (fun q => if zTO f rd p q then upd f (30 + q) (f (25 + p)) else f) f) f) := by first | rw [zPa_n (by assumption)] | (rw [zPa_y hp hn, zPa_n (by assumption)]) | (rw [zPa_y hp hn, zPa_y hq hn]; first | rw [if_pos ⟨by assumption, by assumption, by assumption⟩] | rw [if_neg (fun h => h.1 (by assumption))] | rw [if_neg (fun h => absurd h.2.1 (by assumption))] | rw [if_neg (fun h => absurd h.2.2 (by assumption))])
    have hP : va_P D vwCl [(o, .inr (8, [.ref tx, .ref r, .ref a, .ref r2, .ref a2, .ref x, .ref y, .ref z, .ref v, .ref h, .long sd])), (r, .inr (3, [.ref ro, .ref rn, .ref rr, .int rt, .int fr, .int pr, .int (nI n), .int (nI m)])), (rr, .inl (cI, 5, .inl rd)), (a, .inr (6, [.ref b])), (b, .inl (cI, 36, .inl (zPa n x1 (fun p => zPa n x2 (fun q => if zTO f rd p q then upd f (30 + q) (f (25 + p)) else f) f) f))), (x, .inr (0, [.ref xs, .int (nI cn), .int (nI nx)])), (xs, .inl (cI, 432, .inl sf))] H := Eq.subst (motive := fun zz_ => va_P D vwCl [(o, .inr (8, [.ref tx, .ref r, .ref a, .ref r2, .ref a2, .ref x, .ref y, .ref z, .ref v, .ref h, .long sd])), (r, .inr (3, [.ref ro, .ref rn, .ref rr, .int rt, .int fr, .int pr, .int (nI n), .int (nI m)])), (rr, .inl (cI, 5, .inl rd)), (a, .inr (6, [.ref b])), (b, .inl (cI, 36, .inl zz_)), (x, .inr (0, [.ref xs, .int (nI cn), .int (nI nx)])), (xs, .inl (cI, 432, .inl sf))] H) e_4 hP
    have e_5 : nI cn = nI (zPa n x1 (fun p => zPa n x2 (fun q => if zTO f rd p q then zcn cn else cn) cn) cn) := by first | rw [zPa_n (by assumption)] | (rw [zPa_y hp hn, zPa_n (by assumption)]) | (rw [zPa_y hp hn, zPa_y hq hn]; first | rw [if_pos ⟨by assumption, by assumption, by assumption⟩] | rw [if_neg (fun h => h.1 (by assumption))] | rw [if_neg (fun h => absurd h.2.1 (by assumption))] | rw [if_neg (fun h => absurd h.2.2 (by assumption))])
    have hP : va_P D vwCl [(o, .inr (8, [.ref tx, .ref r, .ref a, .ref r2, .ref a2, .ref x, .ref y, .ref z, .ref v, .ref h, .long sd])), (r, .inr (3, [.ref ro, .ref rn, .ref rr, .int rt, .int fr, .int pr, .int (nI n), .int (nI m)])), (rr, .inl (cI, 5, .inl rd)), (a, .inr (6, [.ref b])), (b, .inl (cI, 36, .inl (zPa n x1 (fun p => zPa n x2 (fun q => if zTO f rd p q then upd f (30 + q) (f (25 + p)) else f) f) f))), (x, .inr (0, [.ref xs, .int (nI (zPa n x1 (fun p => zPa n x2 (fun q => if zTO f rd p q then zcn cn else cn) cn) cn)), .int (nI nx)])), (xs, .inl (cI, 432, .inl sf))] H := Eq.subst (motive := fun zz_ => va_P D vwCl [(o, .inr (8, [.ref tx, .ref r, .ref a, .ref r2, .ref a2, .ref x, .ref y, .ref z, .ref v, .ref h, .long sd])), (r, .inr (3, [.ref ro, .ref rn, .ref rr, .int rt, .int fr, .int pr, .int (nI n), .int (nI m)])), (rr, .inl (cI, 5, .inl rd)), (a, .inr (6, [.ref b])), (b, .inl (cI, 36, .inl (zPa n x1 (fun p => zPa n x2 (fun q => if zTO f rd p q then upd f (30 + q) (f (25 + p)) else f) f) f))), (x, .inr (0, [.ref xs, .int zz_, .int (nI nx)])), (xs, .inl (cI, 432, .inl sf))] H) e_5 hP
    have e_6 : nI nx = nI (zPa n x1 (fun p => zPa n x2 (fun q => if zTO f rd p q then znx nx else nx) nx) nx) := by first | rw [zPa_n (by assumption)] | (rw [zPa_y hp hn, zPa_n (by assumption)]) | (rw [zPa_y hp hn, zPa_y hq hn]; first | rw [if_pos ⟨by assumption, by assumption, by assumption⟩] | rw [if_neg (fun h => h.1 (by assumption))] | rw [if_neg (fun h => absurd h.2.1 (by assumption))] | rw [if_neg (fun h => absurd h.2.2 (by assumption))])
    have hP : va_P D vwCl [(o, .inr (8, [.ref tx, .ref r, .ref a, .ref r2, .ref a2, .ref x, .ref y, .ref z, .ref v, .ref h, .long sd])), (r, .inr (3, [.ref ro, .ref rn, .ref rr, .int rt, .int fr, .int pr, .int (nI n), .int (nI m)])), (rr, .inl (cI, 5, .inl rd)), (a, .inr (6, [.ref b])), (b, .inl (cI, 36, .inl (zPa n x1 (fun p => zPa n x2 (fun q => if zTO f rd p q then upd f (30 + q) (f (25 + p)) else f) f) f))), (x, .inr (0, [.ref xs, .int (nI (zPa n x1 (fun p => zPa n x2 (fun q => if zTO f rd p q then zcn cn else cn) cn) cn)), .int (nI (zPa n x1 (fun p => zPa n x2 (fun q => if zTO f rd p q then znx nx else nx) nx) nx))])), (xs, .inl (cI, 432, .inl sf))] H := Eq.subst (motive := fun zz_ => va_P D vwCl [(o, .inr (8, [.ref tx, .ref r, .ref a, .ref r2, .ref a2, .ref x, .ref y, .ref z, .ref v, .ref h, .long sd])), (r, .inr (3, [.ref ro, .ref rn, .ref rr, .int rt, .int fr, .int pr, .int (nI n), .int (nI m)])), (rr, .inl (cI, 5, .inl rd)), (a, .inr (6, [.ref b])), (b, .inl (cI, 36, .inl (zPa n x1 (fun p => zPa n x2 (fun q => if zTO f rd p q then upd f (30 + q) (f (25 + p)) else f) f) f))), (x, .inr (0, [.ref xs, .int (nI (zPa n x1 (fun p => zPa n x2 (fun q => if zTO f rd p q then zcn cn else cn) cn) cn)), .int zz_])), (xs, .inl (cI, 432, .inl sf))] H) e_6 hP
    have e_7 : sf = (zPa n x1 (fun p => zPa n x2 (fun q => if zTO f rd p q then va_cpy f sf 0 (nx * 36) 36 else sf) sf) sf) := by first | rw [zPa_n (by assumption)] | (rw [zPa_y hp hn, zPa_n (by assumption)]) | (rw [zPa_y hp hn, zPa_y hq hn]; first | rw [if_pos ⟨by assumption, by assumption, by assumption⟩] | rw [if_neg (fun h => h.1 (by assumption))] | rw [if_neg (fun h => absurd h.2.1 (by assumption))] | rw [if_neg (fun h => absurd h.2.2 (by assumption))])
    have hP : va_P D vwCl [(o, .inr (8, [.ref tx, .ref r, .ref a, .ref r2, .ref a2, .ref x, .ref y, .ref z, .ref v, .ref h, .long sd])), (r, .inr (3, [.ref ro, .ref rn, .ref rr, .int rt, .int fr, .int pr, .int (nI n), .int (nI m)])), (rr, .inl (cI, 5, .inl rd)), (a, .inr (6, [.ref b])), (b, .inl (cI, 36, .inl (zPa n x1 (fun p => zPa n x2 (fun q => if zTO f rd p q then upd f (30 + q) (f (25 + p)) else f) f) f))), (x, .inr (0, [.ref xs, .int (nI (zPa n x1 (fun p => zPa n x2 (fun q => if zTO f rd p q then zcn cn else cn) cn) cn)), .int (nI (zPa n x1 (fun p => zPa n x2 (fun q => if zTO f rd p q then znx nx else nx) nx) nx))])), (xs, .inl (cI, 432, .inl (zPa n x1 (fun p => zPa n x2 (fun q => if zTO f rd p q then va_cpy f sf 0 (nx * 36) 36 else sf) sf) sf)))] H := Eq.subst (motive := fun zz_ => va_P D vwCl [(o, .inr (8, [.ref tx, .ref r, .ref a, .ref r2, .ref a2, .ref x, .ref y, .ref z, .ref v, .ref h, .long sd])), (r, .inr (3, [.ref ro, .ref rn, .ref rr, .int rt, .int fr, .int pr, .int (nI n), .int (nI m)])), (rr, .inl (cI, 5, .inl rd)), (a, .inr (6, [.ref b])), (b, .inl (cI, 36, .inl (zPa n x1 (fun p => zPa n x2 (fun q => if zTO f rd p q then upd f (30 + q) (f (25 + p)) else f) f) f))), (x, .inr (0, [.ref xs, .int (nI (zPa n x1 (fun p => zPa n x2 (fun q => if zTO f rd p q then zcn cn else cn) cn) cn)), .int (nI (zPa n x1 (fun p => zPa n x2 (fun q => if zTO f rd p q then znx nx else nx) nx) nx))])), (xs, .inl (cI, 432, .inl zz_))] H) e_7 hP
    have hD : va_D A [(o, .inr (8, [.ref tx, .ref r, .ref a, .ref r2, .ref a2, .ref x, .ref y, .ref z, .ref v, .ref h, .long sd])), (r, .inr (3, [.ref ro, .ref rn, .ref rr, .int rt, .int fr, .int pr, .int (nI n), .int (nI m)])), (rr, .inl (cI, 5, .inl rd)), (a, .inr (6, [.ref b])), (b, .inl (cI, 36, .inl (zPa n x1 (fun p => zPa n x2 (fun q => if zTO f rd p q then upd f (30 + q) (f (25 + p)) else f) f) f))), (x, .inr (0, [.ref xs, .int (nI (zPa n x1 (fun p => zPa n x2 (fun q => if zTO f rd p q then zcn cn else cn) cn) cn)), .int (nI (zPa n x1 (fun p => zPa n x2 (fun q => if zTO f rd p q then znx nx else nx) nx) nx))])), (xs, .inl (cI, 432, .inl (zPa n x1 (fun p => zPa n x2 (fun q => if zTO f rd p q then va_cpy f sf 0 (nx * 36) 36 else sf) sf) sf)))] := zD_of hD rfl
    exact z_iret Z () (by first | rw [zPa_n (by assumption)] | (rw [zPa_y hp hn, zPa_n (by assumption)]) | (rw [zPa_y hp hn, zPa_y hq hn]; first | rw [if_pos ⟨by assumption, by assumption, by assumption⟩] | rw [if_neg (fun h => h.1 (by assumption))] | rw [if_neg (fun h => absurd h.2.1 (by assumption))] | rw [if_neg (fun h => absurd h.2.2 (by assumption))])) hP hS dX8_tellOn_23
  · have c_3 := zb1 c_3
    obtain ⟨p, hp, rfl⟩ := zhas_of (by omega) c_3
    refine lv_aload_n hx hb dX8_tellOn_11 rfl (lv_at hl 0 rfl) ?_
    refine z_get (ci := 8) (v := .ref r) Z zin8 hP 0 rfl rfl 1 (by decide) zm175 rfl rfl dX8_tellOn_12 ?_
    refine lv_iload_n hx hb dX8_tellOn_15 rfl (lv_at hl 2 rfl) ?_
    refine z_callVi (As := [.int x2]) (rest := []) (ci := 3) (k0 := 0) Z hP hD hS hl.1 (zc_X3_has l D cI cZ r ro rn rr rt fr pr n m x2 ) zm329 zm270 zm271 zm32 zm272 ⟨rfl, zd_X3_has⟩ ⟨Nat.le_of_ble_eq_true rfl, Nat.le_of_ble_eq_true rfl⟩ ⟨Nat.zero_le _, Nat.zero_le _⟩ [1] rfl (by decide) rfl rfl rfl (fun _ => rfl) rfl (Nat.le_of_ble_eq_true rfl) rfl dX8_tellOn_16 (fun r_8 u H locs h_9 hP hD hS => ?_)
    have hP : va_P D vwCl [(o, .inr (8, [.ref tx, .ref r, .ref a, .ref r2, .ref a2, .ref x, .ref y, .ref z, .ref v, .ref h, .long sd])), (r, .inr (3, [.ref ro, .ref rn, .ref rr, .int rt, .int fr, .int pr, .int (nI n), .int (nI m)])), (rr, .inl (cI, 5, .inl rd)), (a, .inr (6, [.ref b])), (b, .inl (cI, 36, .inl f)), (x, .inr (0, [.ref xs, .int (nI cn), .int (nI nx)])), (xs, .inl (cI, 432, .inl sf))] H := hP
    have hD : va_D A [(o, .inr (8, [.ref tx, .ref r, .ref a, .ref r2, .ref a2, .ref x, .ref y, .ref z, .ref v, .ref h, .long sd])), (r, .inr (3, [.ref ro, .ref rn, .ref rr, .int rt, .int fr, .int pr, .int (nI n), .int (nI m)])), (rr, .inl (cI, 5, .inl rd)), (a, .inr (6, [.ref b])), (b, .inl (cI, 36, .inl f)), (x, .inr (0, [.ref xs, .int (nI cn), .int (nI nx)])), (xs, .inl (cI, 432, .inl sf))] := hD
    have h_9 : r_8 = if zhas n x2 then 1 else 0 := h_9
    subst h_9
    refine lv_if_ne (tgt := 24) hx hb dX8_tellOn_19 (by decide) (fun c_10 => ?_) (fun c_10 => ?_)
    · have c_10 := zb1 c_10
      obtain ⟨q, hq, rfl⟩ := zhas_of (by omega) c_10
      refine lv_aload_n hx hb dX8_tellOn_24 rfl (lv_at hl 0 rfl) ?_
      refine z_get (ci := 8) (v := .ref a) Z zin8 hP 0 rfl rfl 2 (by decide) zm176 rfl rfl dX8_tellOn_25 ?_
      refine lv_iload_n hx hb dX8_tellOn_28 rfl (lv_at hl 1 rfl) ?_
      refine z_callVi (As := [.int (nI p)]) (rest := []) (ci := 6) (k0 := 0) Z hP hD hS hl.1 (zc_X6_declared l D cI cZ a b f p (by omega)) zm339 zm340 zm341 zm33 zm342 ⟨rfl, zd_X6_declared⟩ ⟨Nat.le_of_ble_eq_true rfl, Nat.le_of_ble_eq_true rfl⟩ ⟨Nat.zero_le _, Nat.zero_le _⟩ [3, 4] rfl (by decide) rfl rfl rfl (fun _ => rfl) rfl (Nat.le_of_ble_eq_true rfl) rfl dX8_tellOn_29 (fun r_11 u H locs h_12 hP hD hS => ?_)
      have hP : va_P D vwCl [(o, .inr (8, [.ref tx, .ref r, .ref a, .ref r2, .ref a2, .ref x, .ref y, .ref z, .ref v, .ref h, .long sd])), (r, .inr (3, [.ref ro, .ref rn, .ref rr, .int rt, .int fr, .int pr, .int (nI n), .int (nI m)])), (rr, .inl (cI, 5, .inl rd)), (a, .inr (6, [.ref b])), (b, .inl (cI, 36, .inl f)), (x, .inr (0, [.ref xs, .int (nI cn), .int (nI nx)])), (xs, .inl (cI, 432, .inl sf))] H := hP
      have hD : va_D A [(o, .inr (8, [.ref tx, .ref r, .ref a, .ref r2, .ref a2, .ref x, .ref y, .ref z, .ref v, .ref h, .long sd])), (r, .inr (3, [.ref ro, .ref rn, .ref rr, .int rt, .int fr, .int pr, .int (nI n), .int (nI m)])), (rr, .inl (cI, 5, .inl rd)), (a, .inr (6, [.ref b])), (b, .inl (cI, 36, .inl f)), (x, .inr (0, [.ref xs, .int (nI cn), .int (nI nx)])), (xs, .inl (cI, 432, .inl sf))] := hD
      have h_12 : r_11 = f (25 + p) := h_12
      subst h_12
      refine lv_istore_n (lv' := [(3, .int (f (25 + p))), (0, .ref o), (1, .int (nI p)), (2, .int (nI q))]) hx hb dX8_tellOn_32 rfl hl (by decide) rfl (fun ls hl => ?_)
      refine lv_iload_n hx hb dX8_tellOn_33 rfl (lv_at hl 0 rfl) ?_
      refine lv_bipush (v := -9) hx hb dX8_tellOn_34 (by decide) ?_
      refine lv_icmp_eq (tgt := 62) hx hb dX8_tellOn_36 (by decide) (fun c_13 => ?_) (fun c_13 => ?_)
      · have c_13 : (f (25 + p)) = (-9) := c_13
        refine lv_bipush (v := -3) hx hb dX8_tellOn_62 (by decide) ?_
        have e_14 : f = (zPa n (nI p) (fun p => zPa n (nI q) (fun q => if zTO f rd p q then upd f (30 + q) (f (25 + p)) else f) f) f) := by first | rw [zPa_n (by assumption)] | (rw [zPa_y hp hn, zPa_n (by assumption)]) | (rw [zPa_y hp hn, zPa_y hq hn]; first | rw [if_pos ⟨by assumption, by assumption, by assumption⟩] | rw [if_neg (fun h => h.1 (by assumption))] | rw [if_neg (fun h => absurd h.2.1 (by assumption))] | rw [if_neg (fun h => absurd h.2.2 (by assumption))])
        have hP : va_P D vwCl [(o, .inr (8, [.ref tx, .ref r, .ref a, .ref r2, .ref a2, .ref x, .ref y, .ref z, .ref v, .ref h, .long sd])), (r, .inr (3, [.ref ro, .ref rn, .ref rr, .int rt, .int fr, .int pr, .int (nI n), .int (nI m)])), (rr, .inl (cI, 5, .inl rd)), (a, .inr (6, [.ref b])), (b, .inl (cI, 36, .inl (zPa n (nI p) (fun p => zPa n (nI q) (fun q => if zTO f rd p q then upd f (30 + q) (f (25 + p)) else f) f) f))), (x, .inr (0, [.ref xs, .int (nI cn), .int (nI nx)])), (xs, .inl (cI, 432, .inl sf))] H := Eq.subst (motive := fun zz_ => va_P D vwCl [(o, .inr (8, [.ref tx, .ref r, .ref a, .ref r2, .ref a2, .ref x, .ref y, .ref z, .ref v, .ref h, .long sd])), (r, .inr (3, [.ref ro, .ref rn, .ref rr, .int rt, .int fr, .int pr, .int (nI n), .int (nI m)])), (rr, .inl (cI, 5, .inl rd)), (a, .inr (6, [.ref b])), (b, .inl (cI, 36, .inl zz_)), (x, .inr (0, [.ref xs, .int (nI cn), .int (nI nx)])), (xs, .inl (cI, 432, .inl sf))] H) e_14 hP
        have e_15 : nI cn = nI (zPa n (nI p) (fun p => zPa n (nI q) (fun q => if zTO f rd p q then zcn cn else cn) cn) cn) := by first | rw [zPa_n (by assumption)] | (rw [zPa_y hp hn, zPa_n (by assumption)]) | (rw [zPa_y hp hn, zPa_y hq hn]; first | rw [if_pos ⟨by assumption, by assumption, by assumption⟩] | rw [if_neg (fun h => h.1 (by assumption))] | rw [if_neg (fun h => absurd h.2.1 (by assumption))] | rw [if_neg (fun h => absurd h.2.2 (by assumption))])
        have hP : va_P D vwCl [(o, .inr (8, [.ref tx, .ref r, .ref a, .ref r2, .ref a2, .ref x, .ref y, .ref z, .ref v, .ref h, .long sd])), (r, .inr (3, [.ref ro, .ref rn, .ref rr, .int rt, .int fr, .int pr, .int (nI n), .int (nI m)])), (rr, .inl (cI, 5, .inl rd)), (a, .inr (6, [.ref b])), (b, .inl (cI, 36, .inl (zPa n (nI p) (fun p => zPa n (nI q) (fun q => if zTO f rd p q then upd f (30 + q) (f (25 + p)) else f) f) f))), (x, .inr (0, [.ref xs, .int (nI (zPa n (nI p) (fun p => zPa n (nI q) (fun q => if zTO f rd p q then zcn cn else cn) cn) cn)), .int (nI nx)])), (xs, .inl (cI, 432, .inl sf))] H := Eq.subst (motive := fun zz_ => va_P D vwCl [(o, .inr (8, [.ref tx, .ref r, .ref a, .ref r2, .ref a2, .ref x, .ref y, .ref z, .ref v, .ref h, .long sd])), (r, .inr (3, [.ref ro, .ref rn, .ref rr, .int rt, .int fr, .int pr, .int (nI n), .int (nI m)])), (rr, .inl (cI, 5, .inl rd)), (a, .inr (6, [.ref b])), (b, .inl (cI, 36, .inl (zPa n (nI p) (fun p => zPa n (nI q) (fun q => if zTO f rd p q then upd f (30 + q) (f (25 + p)) else f) f) f))), (x, .inr (0, [.ref xs, .int zz_, .int (nI nx)])), (xs, .inl (cI, 432, .inl sf))] H) e_15 hP
        have e_16 : nI nx = nI (zPa n (nI p) (fun p => zPa n (nI q) (fun q => if zTO f rd p q then znx nx else nx) nx) nx) := by first | rw [zPa_n (by assumption)] | (rw [zPa_y hp hn, zPa_n (by assumption)]) | (rw [zPa_y hp hn, zPa_y hq hn]; first | rw [if_pos ⟨by assumption, by assumption, by assumption⟩] | rw [if_neg (fun h => h.1 (by assumption))] | rw [if_neg (fun h => absurd h.2.1 (by assumption))] | rw [if_neg (fun h => absurd h.2.2 (by assumption))])
        have hP : va_P D vwCl [(o, .inr (8, [.ref tx, .ref r, .ref a, .ref r2, .ref a2, .ref x, .ref y, .ref z, .ref v, .ref h, .long sd])), (r, .inr (3, [.ref ro, .ref rn, .ref rr, .int rt, .int fr, .int pr, .int (nI n), .int (nI m)])), (rr, .inl (cI, 5, .inl rd)), (a, .inr (6, [.ref b])), (b, .inl (cI, 36, .inl (zPa n (nI p) (fun p => zPa n (nI q) (fun q => if zTO f rd p q then upd f (30 + q) (f (25 + p)) else f) f) f))), (x, .inr (0, [.ref xs, .int (nI (zPa n (nI p) (fun p => zPa n (nI q) (fun q => if zTO f rd p q then zcn cn else cn) cn) cn)), .int (nI (zPa n (nI p) (fun p => zPa n (nI q) (fun q => if zTO f rd p q then znx nx else nx) nx) nx))])), (xs, .inl (cI, 432, .inl sf))] H := Eq.subst (motive := fun zz_ => va_P D vwCl [(o, .inr (8, [.ref tx, .ref r, .ref a, .ref r2, .ref a2, .ref x, .ref y, .ref z, .ref v, .ref h, .long sd])), (r, .inr (3, [.ref ro, .ref rn, .ref rr, .int rt, .int fr, .int pr, .int (nI n), .int (nI m)])), (rr, .inl (cI, 5, .inl rd)), (a, .inr (6, [.ref b])), (b, .inl (cI, 36, .inl (zPa n (nI p) (fun p => zPa n (nI q) (fun q => if zTO f rd p q then upd f (30 + q) (f (25 + p)) else f) f) f))), (x, .inr (0, [.ref xs, .int (nI (zPa n (nI p) (fun p => zPa n (nI q) (fun q => if zTO f rd p q then zcn cn else cn) cn) cn)), .int zz_])), (xs, .inl (cI, 432, .inl sf))] H) e_16 hP
        have e_17 : sf = (zPa n (nI p) (fun p => zPa n (nI q) (fun q => if zTO f rd p q then va_cpy f sf 0 (nx * 36) 36 else sf) sf) sf) := by first | rw [zPa_n (by assumption)] | (rw [zPa_y hp hn, zPa_n (by assumption)]) | (rw [zPa_y hp hn, zPa_y hq hn]; first | rw [if_pos ⟨by assumption, by assumption, by assumption⟩] | rw [if_neg (fun h => h.1 (by assumption))] | rw [if_neg (fun h => absurd h.2.1 (by assumption))] | rw [if_neg (fun h => absurd h.2.2 (by assumption))])
        have hP : va_P D vwCl [(o, .inr (8, [.ref tx, .ref r, .ref a, .ref r2, .ref a2, .ref x, .ref y, .ref z, .ref v, .ref h, .long sd])), (r, .inr (3, [.ref ro, .ref rn, .ref rr, .int rt, .int fr, .int pr, .int (nI n), .int (nI m)])), (rr, .inl (cI, 5, .inl rd)), (a, .inr (6, [.ref b])), (b, .inl (cI, 36, .inl (zPa n (nI p) (fun p => zPa n (nI q) (fun q => if zTO f rd p q then upd f (30 + q) (f (25 + p)) else f) f) f))), (x, .inr (0, [.ref xs, .int (nI (zPa n (nI p) (fun p => zPa n (nI q) (fun q => if zTO f rd p q then zcn cn else cn) cn) cn)), .int (nI (zPa n (nI p) (fun p => zPa n (nI q) (fun q => if zTO f rd p q then znx nx else nx) nx) nx))])), (xs, .inl (cI, 432, .inl (zPa n (nI p) (fun p => zPa n (nI q) (fun q => if zTO f rd p q then va_cpy f sf 0 (nx * 36) 36 else sf) sf) sf)))] H := Eq.subst (motive := fun zz_ => va_P D vwCl [(o, .inr (8, [.ref tx, .ref r, .ref a, .ref r2, .ref a2, .ref x, .ref y, .ref z, .ref v, .ref h, .long sd])), (r, .inr (3, [.ref ro, .ref rn, .ref rr, .int rt, .int fr, .int pr, .int (nI n), .int (nI m)])), (rr, .inl (cI, 5, .inl rd)), (a, .inr (6, [.ref b])), (b, .inl (cI, 36, .inl (zPa n (nI p) (fun p => zPa n (nI q) (fun q => if zTO f rd p q then upd f (30 + q) (f (25 + p)) else f) f) f))), (x, .inr (0, [.ref xs, .int (nI (zPa n (nI p) (fun p => zPa n (nI q) (fun q => if zTO f rd p q then zcn cn else cn) cn) cn)), .int (nI (zPa n (nI p) (fun p => zPa n (nI q) (fun q => if zTO f rd p q then znx nx else nx) nx) nx))])), (xs, .inl (cI, 432, .inl zz_))] H) e_17 hP
        have hD : va_D A [(o, .inr (8, [.ref tx, .ref r, .ref a, .ref r2, .ref a2, .ref x, .ref y, .ref z, .ref v, .ref h, .long sd])), (r, .inr (3, [.ref ro, .ref rn, .ref rr, .int rt, .int fr, .int pr, .int (nI n), .int (nI m)])), (rr, .inl (cI, 5, .inl rd)), (a, .inr (6, [.ref b])), (b, .inl (cI, 36, .inl (zPa n (nI p) (fun p => zPa n (nI q) (fun q => if zTO f rd p q then upd f (30 + q) (f (25 + p)) else f) f) f))), (x, .inr (0, [.ref xs, .int (nI (zPa n (nI p) (fun p => zPa n (nI q) (fun q => if zTO f rd p q then zcn cn else cn) cn) cn)), .int (nI (zPa n (nI p) (fun p => zPa n (nI q) (fun q => if zTO f rd p q then znx nx else nx) nx) nx))])), (xs, .inl (cI, 432, .inl (zPa n (nI p) (fun p => zPa n (nI q) (fun q => if zTO f rd p q then va_cpy f sf 0 (nx * 36) 36 else sf) sf) sf)))] := zD_of hD rfl
        exact z_iret Z () (by first | rw [zPa_n (by assumption)] | (rw [zPa_y hp hn, zPa_n (by assumption)]) | (rw [zPa_y hp hn, zPa_y hq hn]; first | rw [if_pos ⟨by assumption, by assumption, by assumption⟩] | rw [if_neg (fun h => h.1 (by assumption))] | rw [if_neg (fun h => absurd h.2.1 (by assumption))] | rw [if_neg (fun h => absurd h.2.2 (by assumption))])) hP hS dX8_tellOn_64
      · have c_13 : ¬ ((f (25 + p)) = (-9)) := c_13
        refine lv_aload_n hx hb dX8_tellOn_39 rfl (lv_at hl 1 rfl) ?_
        refine z_get (ci := 8) (v := .ref r) Z zin8 hP 0 rfl rfl 1 (by decide) zm175 rfl rfl dX8_tellOn_40 ?_
        refine lv_iload_n hx hb dX8_tellOn_43 rfl (lv_at hl 2 rfl) ?_
        refine lv_iload_n hx hb dX8_tellOn_44 rfl (lv_at hl 3 rfl) ?_
        refine z_callVi (As := [.int (nI p), .int (nI q)]) (rest := []) (ci := 3) (k0 := 0) Z hP hD hS hl.1 (zc_X3_hasRoad l D cI cZ r ro rn rr rt fr pr n m rd p q (by omega)) zm372 zm373 zm374 zm32 zm375 ⟨rfl, zd_X3_hasRoad⟩ ⟨Nat.le_of_ble_eq_true rfl, Nat.le_of_ble_eq_true rfl⟩ ⟨Nat.zero_le _, Nat.zero_le _⟩ [1, 2] rfl (by decide) rfl rfl rfl (fun _ => rfl) rfl (Nat.le_of_ble_eq_true rfl) rfl dX8_tellOn_45 (fun r_18 u H locs h_19 hP hD hS => ?_)
        have hP : va_P D vwCl [(o, .inr (8, [.ref tx, .ref r, .ref a, .ref r2, .ref a2, .ref x, .ref y, .ref z, .ref v, .ref h, .long sd])), (r, .inr (3, [.ref ro, .ref rn, .ref rr, .int rt, .int fr, .int pr, .int (nI n), .int (nI m)])), (rr, .inl (cI, 5, .inl rd)), (a, .inr (6, [.ref b])), (b, .inl (cI, 36, .inl f)), (x, .inr (0, [.ref xs, .int (nI cn), .int (nI nx)])), (xs, .inl (cI, 432, .inl sf))] H := hP
        have hD : va_D A [(o, .inr (8, [.ref tx, .ref r, .ref a, .ref r2, .ref a2, .ref x, .ref y, .ref z, .ref v, .ref h, .long sd])), (r, .inr (3, [.ref ro, .ref rn, .ref rr, .int rt, .int fr, .int pr, .int (nI n), .int (nI m)])), (rr, .inl (cI, 5, .inl rd)), (a, .inr (6, [.ref b])), (b, .inl (cI, 36, .inl f)), (x, .inr (0, [.ref xs, .int (nI cn), .int (nI nx)])), (xs, .inl (cI, 432, .inl sf))] := hD
        have h_19 : r_18 = if zin (rd p) q then 1 else 0 := h_19
        subst h_19
        refine lv_if_eq (tgt := 62) hx hb dX8_tellOn_48 (by decide) (fun c_20 => ?_) (fun c_20 => ?_)
        · have c_20 := zb0 c_20
          refine lv_bipush (v := -3) hx hb dX8_tellOn_62 (by decide) ?_
          have e_21 : f = (zPa n (nI p) (fun p => zPa n (nI q) (fun q => if zTO f rd p q then upd f (30 + q) (f (25 + p)) else f) f) f) := by first | rw [zPa_n (by assumption)] | (rw [zPa_y hp hn, zPa_n (by assumption)]) | (rw [zPa_y hp hn, zPa_y hq hn]; first | rw [if_pos ⟨by assumption, by assumption, by assumption⟩] | rw [if_neg (fun h => h.1 (by assumption))] | rw [if_neg (fun h => absurd h.2.1 (by assumption))] | rw [if_neg (fun h => absurd h.2.2 (by assumption))])
          have hP : va_P D vwCl [(o, .inr (8, [.ref tx, .ref r, .ref a, .ref r2, .ref a2, .ref x, .ref y, .ref z, .ref v, .ref h, .long sd])), (r, .inr (3, [.ref ro, .ref rn, .ref rr, .int rt, .int fr, .int pr, .int (nI n), .int (nI m)])), (rr, .inl (cI, 5, .inl rd)), (a, .inr (6, [.ref b])), (b, .inl (cI, 36, .inl (zPa n (nI p) (fun p => zPa n (nI q) (fun q => if zTO f rd p q then upd f (30 + q) (f (25 + p)) else f) f) f))), (x, .inr (0, [.ref xs, .int (nI cn), .int (nI nx)])), (xs, .inl (cI, 432, .inl sf))] H := Eq.subst (motive := fun zz_ => va_P D vwCl [(o, .inr (8, [.ref tx, .ref r, .ref a, .ref r2, .ref a2, .ref x, .ref y, .ref z, .ref v, .ref h, .long sd])), (r, .inr (3, [.ref ro, .ref rn, .ref rr, .int rt, .int fr, .int pr, .int (nI n), .int (nI m)])), (rr, .inl (cI, 5, .inl rd)), (a, .inr (6, [.ref b])), (b, .inl (cI, 36, .inl zz_)), (x, .inr (0, [.ref xs, .int (nI cn), .int (nI nx)])), (xs, .inl (cI, 432, .inl sf))] H) e_21 hP
          have e_22 : nI cn = nI (zPa n (nI p) (fun p => zPa n (nI q) (fun q => if zTO f rd p q then zcn cn else cn) cn) cn) := by first | rw [zPa_n (by assumption)] | (rw [zPa_y hp hn, zPa_n (by assumption)]) | (rw [zPa_y hp hn, zPa_y hq hn]; first | rw [if_pos ⟨by assumption, by assumption, by assumption⟩] | rw [if_neg (fun h => h.1 (by assumption))] | rw [if_neg (fun h => absurd h.2.1 (by assumption))] | rw [if_neg (fun h => absurd h.2.2 (by assumption))])
          have hP : va_P D vwCl [(o, .inr (8, [.ref tx, .ref r, .ref a, .ref r2, .ref a2, .ref x, .ref y, .ref z, .ref v, .ref h, .long sd])), (r, .inr (3, [.ref ro, .ref rn, .ref rr, .int rt, .int fr, .int pr, .int (nI n), .int (nI m)])), (rr, .inl (cI, 5, .inl rd)), (a, .inr (6, [.ref b])), (b, .inl (cI, 36, .inl (zPa n (nI p) (fun p => zPa n (nI q) (fun q => if zTO f rd p q then upd f (30 + q) (f (25 + p)) else f) f) f))), (x, .inr (0, [.ref xs, .int (nI (zPa n (nI p) (fun p => zPa n (nI q) (fun q => if zTO f rd p q then zcn cn else cn) cn) cn)), .int (nI nx)])), (xs, .inl (cI, 432, .inl sf))] H := Eq.subst (motive := fun zz_ => va_P D vwCl [(o, .inr (8, [.ref tx, .ref r, .ref a, .ref r2, .ref a2, .ref x, .ref y, .ref z, .ref v, .ref h, .long sd])), (r, .inr (3, [.ref ro, .ref rn, .ref rr, .int rt, .int fr, .int pr, .int (nI n), .int (nI m)])), (rr, .inl (cI, 5, .inl rd)), (a, .inr (6, [.ref b])), (b, .inl (cI, 36, .inl (zPa n (nI p) (fun p => zPa n (nI q) (fun q => if zTO f rd p q then upd f (30 + q) (f (25 + p)) else f) f) f))), (x, .inr (0, [.ref xs, .int zz_, .int (nI nx)])), (xs, .inl (cI, 432, .inl sf))] H) e_22 hP
          have e_23 : nI nx = nI (zPa n (nI p) (fun p => zPa n (nI q) (fun q => if zTO f rd p q then znx nx else nx) nx) nx) := by first | rw [zPa_n (by assumption)] | (rw [zPa_y hp hn, zPa_n (by assumption)]) | (rw [zPa_y hp hn, zPa_y hq hn]; first | rw [if_pos ⟨by assumption, by assumption, by assumption⟩] | rw [if_neg (fun h => h.1 (by assumption))] | rw [if_neg (fun h => absurd h.2.1 (by assumption))] | rw [if_neg (fun h => absurd h.2.2 (by assumption))])
          have hP : va_P D vwCl [(o, .inr (8, [.ref tx, .ref r, .ref a, .ref r2, .ref a2, .ref x, .ref y, .ref z, .ref v, .ref h, .long sd])), (r, .inr (3, [.ref ro, .ref rn, .ref rr, .int rt, .int fr, .int pr, .int (nI n), .int (nI m)])), (rr, .inl (cI, 5, .inl rd)), (a, .inr (6, [.ref b])), (b, .inl (cI, 36, .inl (zPa n (nI p) (fun p => zPa n (nI q) (fun q => if zTO f rd p q then upd f (30 + q) (f (25 + p)) else f) f) f))), (x, .inr (0, [.ref xs, .int (nI (zPa n (nI p) (fun p => zPa n (nI q) (fun q => if zTO f rd p q then zcn cn else cn) cn) cn)), .int (nI (zPa n (nI p) (fun p => zPa n (nI q) (fun q => if zTO f rd p q then znx nx else nx) nx) nx))])), (xs, .inl (cI, 432, .inl sf))] H := Eq.subst (motive := fun zz_ => va_P D vwCl [(o, .inr (8, [.ref tx, .ref r, .ref a, .ref r2, .ref a2, .ref x, .ref y, .ref z, .ref v, .ref h, .long sd])), (r, .inr (3, [.ref ro, .ref rn, .ref rr, .int rt, .int fr, .int pr, .int (nI n), .int (nI m)])), (rr, .inl (cI, 5, .inl rd)), (a, .inr (6, [.ref b])), (b, .inl (cI, 36, .inl (zPa n (nI p) (fun p => zPa n (nI q) (fun q => if zTO f rd p q then upd f (30 + q) (f (25 + p)) else f) f) f))), (x, .inr (0, [.ref xs, .int (nI (zPa n (nI p) (fun p => zPa n (nI q) (fun q => if zTO f rd p q then zcn cn else cn) cn) cn)), .int zz_])), (xs, .inl (cI, 432, .inl sf))] H) e_23 hP
          have e_24 : sf = (zPa n (nI p) (fun p => zPa n (nI q) (fun q => if zTO f rd p q then va_cpy f sf 0 (nx * 36) 36 else sf) sf) sf) := by first | rw [zPa_n (by assumption)] | (rw [zPa_y hp hn, zPa_n (by assumption)]) | (rw [zPa_y hp hn, zPa_y hq hn]; first | rw [if_pos ⟨by assumption, by assumption, by assumption⟩] | rw [if_neg (fun h => h.1 (by assumption))] | rw [if_neg (fun h => absurd h.2.1 (by assumption))] | rw [if_neg (fun h => absurd h.2.2 (by assumption))])
          have hP : va_P D vwCl [(o, .inr (8, [.ref tx, .ref r, .ref a, .ref r2, .ref a2, .ref x, .ref y, .ref z, .ref v, .ref h, .long sd])), (r, .inr (3, [.ref ro, .ref rn, .ref rr, .int rt, .int fr, .int pr, .int (nI n), .int (nI m)])), (rr, .inl (cI, 5, .inl rd)), (a, .inr (6, [.ref b])), (b, .inl (cI, 36, .inl (zPa n (nI p) (fun p => zPa n (nI q) (fun q => if zTO f rd p q then upd f (30 + q) (f (25 + p)) else f) f) f))), (x, .inr (0, [.ref xs, .int (nI (zPa n (nI p) (fun p => zPa n (nI q) (fun q => if zTO f rd p q then zcn cn else cn) cn) cn)), .int (nI (zPa n (nI p) (fun p => zPa n (nI q) (fun q => if zTO f rd p q then znx nx else nx) nx) nx))])), (xs, .inl (cI, 432, .inl (zPa n (nI p) (fun p => zPa n (nI q) (fun q => if zTO f rd p q then va_cpy f sf 0 (nx * 36) 36 else sf) sf) sf)))] H := Eq.subst (motive := fun zz_ => va_P D vwCl [(o, .inr (8, [.ref tx, .ref r, .ref a, .ref r2, .ref a2, .ref x, .ref y, .ref z, .ref v, .ref h, .long sd])), (r, .inr (3, [.ref ro, .ref rn, .ref rr, .int rt, .int fr, .int pr, .int (nI n), .int (nI m)])), (rr, .inl (cI, 5, .inl rd)), (a, .inr (6, [.ref b])), (b, .inl (cI, 36, .inl (zPa n (nI p) (fun p => zPa n (nI q) (fun q => if zTO f rd p q then upd f (30 + q) (f (25 + p)) else f) f) f))), (x, .inr (0, [.ref xs, .int (nI (zPa n (nI p) (fun p => zPa n (nI q) (fun q => if zTO f rd p q then zcn cn else cn) cn) cn)), .int (nI (zPa n (nI p) (fun p => zPa n (nI q) (fun q => if zTO f rd p q then znx nx else nx) nx) nx))])), (xs, .inl (cI, 432, .inl zz_))] H) e_24 hP
          have hD : va_D A [(o, .inr (8, [.ref tx, .ref r, .ref a, .ref r2, .ref a2, .ref x, .ref y, .ref z, .ref v, .ref h, .long sd])), (r, .inr (3, [.ref ro, .ref rn, .ref rr, .int rt, .int fr, .int pr, .int (nI n), .int (nI m)])), (rr, .inl (cI, 5, .inl rd)), (a, .inr (6, [.ref b])), (b, .inl (cI, 36, .inl (zPa n (nI p) (fun p => zPa n (nI q) (fun q => if zTO f rd p q then upd f (30 + q) (f (25 + p)) else f) f) f))), (x, .inr (0, [.ref xs, .int (nI (zPa n (nI p) (fun p => zPa n (nI q) (fun q => if zTO f rd p q then zcn cn else cn) cn) cn)), .int (nI (zPa n (nI p) (fun p => zPa n (nI q) (fun q => if zTO f rd p q then znx nx else nx) nx) nx))])), (xs, .inl (cI, 432, .inl (zPa n (nI p) (fun p => zPa n (nI q) (fun q => if zTO f rd p q then va_cpy f sf 0 (nx * 36) 36 else sf) sf) sf)))] := zD_of hD rfl
          exact z_iret Z () (by first | rw [zPa_n (by assumption)] | (rw [zPa_y hp hn, zPa_n (by assumption)]) | (rw [zPa_y hp hn, zPa_y hq hn]; first | rw [if_pos ⟨by assumption, by assumption, by assumption⟩] | rw [if_neg (fun h => h.1 (by assumption))] | rw [if_neg (fun h => absurd h.2.1 (by assumption))] | rw [if_neg (fun h => absurd h.2.2 (by assumption))])) hP hS dX8_tellOn_64
        · have c_20 := zb1 c_20
          refine lv_aload_n hx hb dX8_tellOn_51 rfl (lv_at hl 1 rfl) ?_
          refine z_get (ci := 8) (v := .ref a) Z zin8 hP 0 rfl rfl 2 (by decide) zm176 rfl rfl dX8_tellOn_52 ?_
          refine lv_iload_n hx hb dX8_tellOn_55 rfl (lv_at hl 3 rfl) ?_
          refine z_callVi (As := [.int (nI q)]) (rest := []) (ci := 6) (k0 := 0) Z hP hD hS hl.1 (zc_X6_isOpen l D cI cZ a b f q (by omega)) zm376 zm377 zm378 zm33 zm379 ⟨rfl, zd_X6_isOpen⟩ ⟨Nat.le_of_ble_eq_true rfl, Nat.le_of_ble_eq_true rfl⟩ ⟨Nat.zero_le _, Nat.zero_le _⟩ [3, 4] rfl (by decide) rfl rfl rfl (fun _ => rfl) rfl (Nat.le_of_ble_eq_true rfl) rfl dX8_tellOn_56 (fun r_25 u H locs h_26 hP hD hS => ?_)
          have hP : va_P D vwCl [(o, .inr (8, [.ref tx, .ref r, .ref a, .ref r2, .ref a2, .ref x, .ref y, .ref z, .ref v, .ref h, .long sd])), (r, .inr (3, [.ref ro, .ref rn, .ref rr, .int rt, .int fr, .int pr, .int (nI n), .int (nI m)])), (rr, .inl (cI, 5, .inl rd)), (a, .inr (6, [.ref b])), (b, .inl (cI, 36, .inl f)), (x, .inr (0, [.ref xs, .int (nI cn), .int (nI nx)])), (xs, .inl (cI, 432, .inl sf))] H := hP
          have hD : va_D A [(o, .inr (8, [.ref tx, .ref r, .ref a, .ref r2, .ref a2, .ref x, .ref y, .ref z, .ref v, .ref h, .long sd])), (r, .inr (3, [.ref ro, .ref rn, .ref rr, .int rt, .int fr, .int pr, .int (nI n), .int (nI m)])), (rr, .inl (cI, 5, .inl rd)), (a, .inr (6, [.ref b])), (b, .inl (cI, 36, .inl f)), (x, .inr (0, [.ref xs, .int (nI cn), .int (nI nx)])), (xs, .inl (cI, 432, .inl sf))] := hD
          have h_26 : r_25 = if f (25 + q) = -9 ∧ f (30 + q) = -9 then 1 else 0 := h_26
          subst h_26
          refine lv_if_ne (tgt := 65) hx hb dX8_tellOn_59 (by decide) (fun c_27 => ?_) (fun c_27 => ?_)
          · have c_27 := zb1 c_27
            refine lv_aload_n hx hb dX8_tellOn_65 rfl (lv_at hl 1 rfl) ?_
            refine z_get (ci := 8) (v := .ref x) Z zin8 hP 0 rfl rfl 5 (by decide) zm179 rfl rfl dX8_tellOn_66 ?_
            refine lv_aload_n hx hb dX8_tellOn_69 rfl (lv_at hl 1 rfl) ?_
            refine z_get (ci := 8) (v := .ref a) Z zin8 hP 0 rfl rfl 2 (by decide) zm176 rfl rfl dX8_tellOn_70 ?_
            refine z_callVv (As := [.ref a]) (rest := []) (ci := 0) (k0 := 0) Z hP hD hS hl.1 (zc_X0_remember l D cI cZ x xs cn nx sf a b f (by omega) (by omega)) zm351 zm352 zm353 zm34 zm354 ⟨rfl, zd_X0_remember⟩ ⟨Nat.le_of_ble_eq_true rfl, Nat.le_of_ble_eq_true rfl⟩ ⟨Nat.zero_le _, Nat.zero_le _⟩ [5, 6, 3, 4] rfl (by decide) rfl rfl rfl (fun _ => rfl) rfl (Nat.le_of_ble_eq_true rfl) rfl dX8_tellOn_73 (fun u H locs h_29 hP hD hS => ?_)
            have hP : va_P D vwCl [(o, .inr (8, [.ref tx, .ref r, .ref a, .ref r2, .ref a2, .ref x, .ref y, .ref z, .ref v, .ref h, .long sd])), (r, .inr (3, [.ref ro, .ref rn, .ref rr, .int rt, .int fr, .int pr, .int (nI n), .int (nI m)])), (rr, .inl (cI, 5, .inl rd)), (a, .inr (6, [.ref b])), (b, .inl (cI, 36, .inl f)), (x, .inr (0, [.ref xs, .int (nI (zcn cn)), .int (nI (znx nx))])), (xs, .inl (cI, 432, .inl (va_cpy f sf 0 (nx * 36) 36)))] H := hP
            have hD : va_D A [(o, .inr (8, [.ref tx, .ref r, .ref a, .ref r2, .ref a2, .ref x, .ref y, .ref z, .ref v, .ref h, .long sd])), (r, .inr (3, [.ref ro, .ref rn, .ref rr, .int rt, .int fr, .int pr, .int (nI n), .int (nI m)])), (rr, .inl (cI, 5, .inl rd)), (a, .inr (6, [.ref b])), (b, .inl (cI, 36, .inl f)), (x, .inr (0, [.ref xs, .int (nI (zcn cn)), .int (nI (znx nx))])), (xs, .inl (cI, 432, .inl (va_cpy f sf 0 (nx * 36) 36)))] := hD
            refine lv_aload_n hx hb dX8_tellOn_76 rfl (lv_at hl 1 rfl) ?_
            refine z_get (ci := 8) (v := .ref a) Z zin8 hP 0 rfl rfl 2 (by decide) zm176 rfl rfl dX8_tellOn_77 ?_
            refine lv_iload_n hx hb dX8_tellOn_80 rfl (lv_at hl 3 rfl) ?_
            refine lv_iload_n hx hb dX8_tellOn_81 rfl (lv_at hl 0 rfl) ?_
            refine z_callVv (As := [.int (nI q), .int (f (25 + p))]) (rest := []) (ci := 6) (k0 := 0) Z hP hD hS hl.1 (zc_X6_setHeard l D cI cZ a b f q (f (25 + p)) (by omega)) zm382 zm107 zm108 zm33 zm109 ⟨rfl, zd_X6_setHeard⟩ ⟨Nat.le_of_ble_eq_true rfl, Nat.le_of_ble_eq_true rfl⟩ ⟨Nat.zero_le _, Nat.zero_le _⟩ [3, 4] rfl (by decide) rfl rfl rfl (fun _ => rfl) rfl (Nat.le_of_ble_eq_true rfl) rfl dX8_tellOn_82 (fun u H locs h_31 hP hD hS => ?_)
            have hP : va_P D vwCl [(o, .inr (8, [.ref tx, .ref r, .ref a, .ref r2, .ref a2, .ref x, .ref y, .ref z, .ref v, .ref h, .long sd])), (r, .inr (3, [.ref ro, .ref rn, .ref rr, .int rt, .int fr, .int pr, .int (nI n), .int (nI m)])), (rr, .inl (cI, 5, .inl rd)), (a, .inr (6, [.ref b])), (b, .inl (cI, 36, .inl (upd f (30 + q) (f (25 + p))))), (x, .inr (0, [.ref xs, .int (nI (zcn cn)), .int (nI (znx nx))])), (xs, .inl (cI, 432, .inl (va_cpy f sf 0 (nx * 36) 36)))] H := hP
            have hD : va_D A [(o, .inr (8, [.ref tx, .ref r, .ref a, .ref r2, .ref a2, .ref x, .ref y, .ref z, .ref v, .ref h, .long sd])), (r, .inr (3, [.ref ro, .ref rn, .ref rr, .int rt, .int fr, .int pr, .int (nI n), .int (nI m)])), (rr, .inl (cI, 5, .inl rd)), (a, .inr (6, [.ref b])), (b, .inl (cI, 36, .inl (upd f (30 + q) (f (25 + p))))), (x, .inr (0, [.ref xs, .int (nI (zcn cn)), .int (nI (znx nx))])), (xs, .inl (cI, 432, .inl (va_cpy f sf 0 (nx * 36) 36)))] := hD
            refine lv_iload_n hx hb dX8_tellOn_85 rfl (lv_at hl 0 rfl) ?_
            have e_32 : upd f (30 + q) (f (25 + p)) = (zPa n (nI p) (fun p => zPa n (nI q) (fun q => if zTO f rd p q then upd f (30 + q) (f (25 + p)) else f) f) f) := by first | rw [zPa_n (by assumption)] | (rw [zPa_y hp hn, zPa_n (by assumption)]) | (rw [zPa_y hp hn, zPa_y hq hn]; first | rw [if_pos ⟨by assumption, by assumption, by assumption⟩] | rw [if_neg (fun h => h.1 (by assumption))] | rw [if_neg (fun h => absurd h.2.1 (by assumption))] | rw [if_neg (fun h => absurd h.2.2 (by assumption))])
            have hP : va_P D vwCl [(o, .inr (8, [.ref tx, .ref r, .ref a, .ref r2, .ref a2, .ref x, .ref y, .ref z, .ref v, .ref h, .long sd])), (r, .inr (3, [.ref ro, .ref rn, .ref rr, .int rt, .int fr, .int pr, .int (nI n), .int (nI m)])), (rr, .inl (cI, 5, .inl rd)), (a, .inr (6, [.ref b])), (b, .inl (cI, 36, .inl (zPa n (nI p) (fun p => zPa n (nI q) (fun q => if zTO f rd p q then upd f (30 + q) (f (25 + p)) else f) f) f))), (x, .inr (0, [.ref xs, .int (nI (zcn cn)), .int (nI (znx nx))])), (xs, .inl (cI, 432, .inl (va_cpy f sf 0 (nx * 36) 36)))] H := Eq.subst (motive := fun zz_ => va_P D vwCl [(o, .inr (8, [.ref tx, .ref r, .ref a, .ref r2, .ref a2, .ref x, .ref y, .ref z, .ref v, .ref h, .long sd])), (r, .inr (3, [.ref ro, .ref rn, .ref rr, .int rt, .int fr, .int pr, .int (nI n), .int (nI m)])), (rr, .inl (cI, 5, .inl rd)), (a, .inr (6, [.ref b])), (b, .inl (cI, 36, .inl zz_)), (x, .inr (0, [.ref xs, .int (nI (zcn cn)), .int (nI (znx nx))])), (xs, .inl (cI, 432, .inl (va_cpy f sf 0 (nx * 36) 36)))] H) e_32 hP
            have e_33 : nI (zcn cn) = nI (zPa n (nI p) (fun p => zPa n (nI q) (fun q => if zTO f rd p q then zcn cn else cn) cn) cn) := by first | rw [zPa_n (by assumption)] | (rw [zPa_y hp hn, zPa_n (by assumption)]) | (rw [zPa_y hp hn, zPa_y hq hn]; first | rw [if_pos ⟨by assumption, by assumption, by assumption⟩] | rw [if_neg (fun h => h.1 (by assumption))] | rw [if_neg (fun h => absurd h.2.1 (by assumption))] | rw [if_neg (fun h => absurd h.2.2 (by assumption))])
            have hP : va_P D vwCl [(o, .inr (8, [.ref tx, .ref r, .ref a, .ref r2, .ref a2, .ref x, .ref y, .ref z, .ref v, .ref h, .long sd])), (r, .inr (3, [.ref ro, .ref rn, .ref rr, .int rt, .int fr, .int pr, .int (nI n), .int (nI m)])), (rr, .inl (cI, 5, .inl rd)), (a, .inr (6, [.ref b])), (b, .inl (cI, 36, .inl (zPa n (nI p) (fun p => zPa n (nI q) (fun q => if zTO f rd p q then upd f (30 + q) (f (25 + p)) else f) f) f))), (x, .inr (0, [.ref xs, .int (nI (zPa n (nI p) (fun p => zPa n (nI q) (fun q => if zTO f rd p q then zcn cn else cn) cn) cn)), .int (nI (znx nx))])), (xs, .inl (cI, 432, .inl (va_cpy f sf 0 (nx * 36) 36)))] H := Eq.subst (motive := fun zz_ => va_P D vwCl [(o, .inr (8, [.ref tx, .ref r, .ref a, .ref r2, .ref a2, .ref x, .ref y, .ref z, .ref v, .ref h, .long sd])), (r, .inr (3, [.ref ro, .ref rn, .ref rr, .int rt, .int fr, .int pr, .int (nI n), .int (nI m)])), (rr, .inl (cI, 5, .inl rd)), (a, .inr (6, [.ref b])), (b, .inl (cI, 36, .inl (zPa n (nI p) (fun p => zPa n (nI q) (fun q => if zTO f rd p q then upd f (30 + q) (f (25 + p)) else f) f) f))), (x, .inr (0, [.ref xs, .int zz_, .int (nI (znx nx))])), (xs, .inl (cI, 432, .inl (va_cpy f sf 0 (nx * 36) 36)))] H) e_33 hP
            have e_34 : nI (znx nx) = nI (zPa n (nI p) (fun p => zPa n (nI q) (fun q => if zTO f rd p q then znx nx else nx) nx) nx) := by first | rw [zPa_n (by assumption)] | (rw [zPa_y hp hn, zPa_n (by assumption)]) | (rw [zPa_y hp hn, zPa_y hq hn]; first | rw [if_pos ⟨by assumption, by assumption, by assumption⟩] | rw [if_neg (fun h => h.1 (by assumption))] | rw [if_neg (fun h => absurd h.2.1 (by assumption))] | rw [if_neg (fun h => absurd h.2.2 (by assumption))])
            have hP : va_P D vwCl [(o, .inr (8, [.ref tx, .ref r, .ref a, .ref r2, .ref a2, .ref x, .ref y, .ref z, .ref v, .ref h, .long sd])), (r, .inr (3, [.ref ro, .ref rn, .ref rr, .int rt, .int fr, .int pr, .int (nI n), .int (nI m)])), (rr, .inl (cI, 5, .inl rd)), (a, .inr (6, [.ref b])), (b, .inl (cI, 36, .inl (zPa n (nI p) (fun p => zPa n (nI q) (fun q => if zTO f rd p q then upd f (30 + q) (f (25 + p)) else f) f) f))), (x, .inr (0, [.ref xs, .int (nI (zPa n (nI p) (fun p => zPa n (nI q) (fun q => if zTO f rd p q then zcn cn else cn) cn) cn)), .int (nI (zPa n (nI p) (fun p => zPa n (nI q) (fun q => if zTO f rd p q then znx nx else nx) nx) nx))])), (xs, .inl (cI, 432, .inl (va_cpy f sf 0 (nx * 36) 36)))] H := Eq.subst (motive := fun zz_ => va_P D vwCl [(o, .inr (8, [.ref tx, .ref r, .ref a, .ref r2, .ref a2, .ref x, .ref y, .ref z, .ref v, .ref h, .long sd])), (r, .inr (3, [.ref ro, .ref rn, .ref rr, .int rt, .int fr, .int pr, .int (nI n), .int (nI m)])), (rr, .inl (cI, 5, .inl rd)), (a, .inr (6, [.ref b])), (b, .inl (cI, 36, .inl (zPa n (nI p) (fun p => zPa n (nI q) (fun q => if zTO f rd p q then upd f (30 + q) (f (25 + p)) else f) f) f))), (x, .inr (0, [.ref xs, .int (nI (zPa n (nI p) (fun p => zPa n (nI q) (fun q => if zTO f rd p q then zcn cn else cn) cn) cn)), .int zz_])), (xs, .inl (cI, 432, .inl (va_cpy f sf 0 (nx * 36) 36)))] H) e_34 hP
            have e_35 : va_cpy f sf 0 (nx * 36) 36 = (zPa n (nI p) (fun p => zPa n (nI q) (fun q => if zTO f rd p q then va_cpy f sf 0 (nx * 36) 36 else sf) sf) sf) := by first | rw [zPa_n (by assumption)] | (rw [zPa_y hp hn, zPa_n (by assumption)]) | (rw [zPa_y hp hn, zPa_y hq hn]; first | rw [if_pos ⟨by assumption, by assumption, by assumption⟩] | rw [if_neg (fun h => h.1 (by assumption))] | rw [if_neg (fun h => absurd h.2.1 (by assumption))] | rw [if_neg (fun h => absurd h.2.2 (by assumption))])
            have hP : va_P D vwCl [(o, .inr (8, [.ref tx, .ref r, .ref a, .ref r2, .ref a2, .ref x, .ref y, .ref z, .ref v, .ref h, .long sd])), (r, .inr (3, [.ref ro, .ref rn, .ref rr, .int rt, .int fr, .int pr, .int (nI n), .int (nI m)])), (rr, .inl (cI, 5, .inl rd)), (a, .inr (6, [.ref b])), (b, .inl (cI, 36, .inl (zPa n (nI p) (fun p => zPa n (nI q) (fun q => if zTO f rd p q then upd f (30 + q) (f (25 + p)) else f) f) f))), (x, .inr (0, [.ref xs, .int (nI (zPa n (nI p) (fun p => zPa n (nI q) (fun q => if zTO f rd p q then zcn cn else cn) cn) cn)), .int (nI (zPa n (nI p) (fun p => zPa n (nI q) (fun q => if zTO f rd p q then znx nx else nx) nx) nx))])), (xs, .inl (cI, 432, .inl (zPa n (nI p) (fun p => zPa n (nI q) (fun q => if zTO f rd p q then va_cpy f sf 0 (nx * 36) 36 else sf) sf) sf)))] H := Eq.subst (motive := fun zz_ => va_P D vwCl [(o, .inr (8, [.ref tx, .ref r, .ref a, .ref r2, .ref a2, .ref x, .ref y, .ref z, .ref v, .ref h, .long sd])), (r, .inr (3, [.ref ro, .ref rn, .ref rr, .int rt, .int fr, .int pr, .int (nI n), .int (nI m)])), (rr, .inl (cI, 5, .inl rd)), (a, .inr (6, [.ref b])), (b, .inl (cI, 36, .inl (zPa n (nI p) (fun p => zPa n (nI q) (fun q => if zTO f rd p q then upd f (30 + q) (f (25 + p)) else f) f) f))), (x, .inr (0, [.ref xs, .int (nI (zPa n (nI p) (fun p => zPa n (nI q) (fun q => if zTO f rd p q then zcn cn else cn) cn) cn)), .int (nI (zPa n (nI p) (fun p => zPa n (nI q) (fun q => if zTO f rd p q then znx nx else nx) nx) nx))])), (xs, .inl (cI, 432, .inl zz_))] H) e_35 hP
            have hD : va_D A [(o, .inr (8, [.ref tx, .ref r, .ref a, .ref r2, .ref a2, .ref x, .ref y, .ref z, .ref v, .ref h, .long sd])), (r, .inr (3, [.ref ro, .ref rn, .ref rr, .int rt, .int fr, .int pr, .int (nI n), .int (nI m)])), (rr, .inl (cI, 5, .inl rd)), (a, .inr (6, [.ref b])), (b, .inl (cI, 36, .inl (zPa n (nI p) (fun p => zPa n (nI q) (fun q => if zTO f rd p q then upd f (30 + q) (f (25 + p)) else f) f) f))), (x, .inr (0, [.ref xs, .int (nI (zPa n (nI p) (fun p => zPa n (nI q) (fun q => if zTO f rd p q then zcn cn else cn) cn) cn)), .int (nI (zPa n (nI p) (fun p => zPa n (nI q) (fun q => if zTO f rd p q then znx nx else nx) nx) nx))])), (xs, .inl (cI, 432, .inl (zPa n (nI p) (fun p => zPa n (nI q) (fun q => if zTO f rd p q then va_cpy f sf 0 (nx * 36) 36 else sf) sf) sf)))] := zD_of hD rfl
            exact z_iret Z () (by first | rw [zPa_n (by assumption)] | (rw [zPa_y hp hn, zPa_n (by assumption)]) | (rw [zPa_y hp hn, zPa_y hq hn]; first | rw [if_pos ⟨by assumption, by assumption, by assumption⟩] | rw [if_neg (fun h => h.1 (by assumption))] | rw [if_neg (fun h => absurd h.2.1 (by assumption))] | rw [if_neg (fun h => absurd h.2.2 (by assumption))])) hP hS dX8_tellOn_86
          · have c_27 := zb0 c_27
            refine lv_bipush (v := -3) hx hb dX8_tellOn_62 (by decide) ?_
            have e_36 : f = (zPa n (nI p) (fun p => zPa n (nI q) (fun q => if zTO f rd p q then upd f (30 + q) (f (25 + p)) else f) f) f) := by first | rw [zPa_n (by assumption)] | (rw [zPa_y hp hn, zPa_n (by assumption)]) | (rw [zPa_y hp hn, zPa_y hq hn]; first | rw [if_pos ⟨by assumption, by assumption, by assumption⟩] | rw [if_neg (fun h => h.1 (by assumption))] | rw [if_neg (fun h => absurd h.2.1 (by assumption))] | rw [if_neg (fun h => absurd h.2.2 (by assumption))])
            have hP : va_P D vwCl [(o, .inr (8, [.ref tx, .ref r, .ref a, .ref r2, .ref a2, .ref x, .ref y, .ref z, .ref v, .ref h, .long sd])), (r, .inr (3, [.ref ro, .ref rn, .ref rr, .int rt, .int fr, .int pr, .int (nI n), .int (nI m)])), (rr, .inl (cI, 5, .inl rd)), (a, .inr (6, [.ref b])), (b, .inl (cI, 36, .inl (zPa n (nI p) (fun p => zPa n (nI q) (fun q => if zTO f rd p q then upd f (30 + q) (f (25 + p)) else f) f) f))), (x, .inr (0, [.ref xs, .int (nI cn), .int (nI nx)])), (xs, .inl (cI, 432, .inl sf))] H := Eq.subst (motive := fun zz_ => va_P D vwCl [(o, .inr (8, [.ref tx, .ref r, .ref a, .ref r2, .ref a2, .ref x, .ref y, .ref z, .ref v, .ref h, .long sd])), (r, .inr (3, [.ref ro, .ref rn, .ref rr, .int rt, .int fr, .int pr, .int (nI n), .int (nI m)])), (rr, .inl (cI, 5, .inl rd)), (a, .inr (6, [.ref b])), (b, .inl (cI, 36, .inl zz_)), (x, .inr (0, [.ref xs, .int (nI cn), .int (nI nx)])), (xs, .inl (cI, 432, .inl sf))] H) e_36 hP
            have e_37 : nI cn = nI (zPa n (nI p) (fun p => zPa n (nI q) (fun q => if zTO f rd p q then zcn cn else cn) cn) cn) := by first | rw [zPa_n (by assumption)] | (rw [zPa_y hp hn, zPa_n (by assumption)]) | (rw [zPa_y hp hn, zPa_y hq hn]; first | rw [if_pos ⟨by assumption, by assumption, by assumption⟩] | rw [if_neg (fun h => h.1 (by assumption))] | rw [if_neg (fun h => absurd h.2.1 (by assumption))] | rw [if_neg (fun h => absurd h.2.2 (by assumption))])
            have hP : va_P D vwCl [(o, .inr (8, [.ref tx, .ref r, .ref a, .ref r2, .ref a2, .ref x, .ref y, .ref z, .ref v, .ref h, .long sd])), (r, .inr (3, [.ref ro, .ref rn, .ref rr, .int rt, .int fr, .int pr, .int (nI n), .int (nI m)])), (rr, .inl (cI, 5, .inl rd)), (a, .inr (6, [.ref b])), (b, .inl (cI, 36, .inl (zPa n (nI p) (fun p => zPa n (nI q) (fun q => if zTO f rd p q then upd f (30 + q) (f (25 + p)) else f) f) f))), (x, .inr (0, [.ref xs, .int (nI (zPa n (nI p) (fun p => zPa n (nI q) (fun q => if zTO f rd p q then zcn cn else cn) cn) cn)), .int (nI nx)])), (xs, .inl (cI, 432, .inl sf))] H := Eq.subst (motive := fun zz_ => va_P D vwCl [(o, .inr (8, [.ref tx, .ref r, .ref a, .ref r2, .ref a2, .ref x, .ref y, .ref z, .ref v, .ref h, .long sd])), (r, .inr (3, [.ref ro, .ref rn, .ref rr, .int rt, .int fr, .int pr, .int (nI n), .int (nI m)])), (rr, .inl (cI, 5, .inl rd)), (a, .inr (6, [.ref b])), (b, .inl (cI, 36, .inl (zPa n (nI p) (fun p => zPa n (nI q) (fun q => if zTO f rd p q then upd f (30 + q) (f (25 + p)) else f) f) f))), (x, .inr (0, [.ref xs, .int zz_, .int (nI nx)])), (xs, .inl (cI, 432, .inl sf))] H) e_37 hP
            have e_38 : nI nx = nI (zPa n (nI p) (fun p => zPa n (nI q) (fun q => if zTO f rd p q then znx nx else nx) nx) nx) := by first | rw [zPa_n (by assumption)] | (rw [zPa_y hp hn, zPa_n (by assumption)]) | (rw [zPa_y hp hn, zPa_y hq hn]; first | rw [if_pos ⟨by assumption, by assumption, by assumption⟩] | rw [if_neg (fun h => h.1 (by assumption))] | rw [if_neg (fun h => absurd h.2.1 (by assumption))] | rw [if_neg (fun h => absurd h.2.2 (by assumption))])
            have hP : va_P D vwCl [(o, .inr (8, [.ref tx, .ref r, .ref a, .ref r2, .ref a2, .ref x, .ref y, .ref z, .ref v, .ref h, .long sd])), (r, .inr (3, [.ref ro, .ref rn, .ref rr, .int rt, .int fr, .int pr, .int (nI n), .int (nI m)])), (rr, .inl (cI, 5, .inl rd)), (a, .inr (6, [.ref b])), (b, .inl (cI, 36, .inl (zPa n (nI p) (fun p => zPa n (nI q) (fun q => if zTO f rd p q then upd f (30 + q) (f (25 + p)) else f) f) f))), (x, .inr (0, [.ref xs, .int (nI (zPa n (nI p) (fun p => zPa n (nI q) (fun q => if zTO f rd p q then zcn cn else cn) cn) cn)), .int (nI (zPa n (nI p) (fun p => zPa n (nI q) (fun q => if zTO f rd p q then znx nx else nx) nx) nx))])), (xs, .inl (cI, 432, .inl sf))] H := Eq.subst (motive := fun zz_ => va_P D vwCl [(o, .inr (8, [.ref tx, .ref r, .ref a, .ref r2, .ref a2, .ref x, .ref y, .ref z, .ref v, .ref h, .long sd])), (r, .inr (3, [.ref ro, .ref rn, .ref rr, .int rt, .int fr, .int pr, .int (nI n), .int (nI m)])), (rr, .inl (cI, 5, .inl rd)), (a, .inr (6, [.ref b])), (b, .inl (cI, 36, .inl (zPa n (nI p) (fun p => zPa n (nI q) (fun q => if zTO f rd p q then upd f (30 + q) (f (25 + p)) else f) f) f))), (x, .inr (0, [.ref xs, .int (nI (zPa n (nI p) (fun p => zPa n (nI q) (fun q => if zTO f rd p q then zcn cn else cn) cn) cn)), .int zz_])), (xs, .inl (cI, 432, .inl sf))] H) e_38 hP
            have e_39 : sf = (zPa n (nI p) (fun p => zPa n (nI q) (fun q => if zTO f rd p q then va_cpy f sf 0 (nx * 36) 36 else sf) sf) sf) := by first | rw [zPa_n (by assumption)] | (rw [zPa_y hp hn, zPa_n (by assumption)]) | (rw [zPa_y hp hn, zPa_y hq hn]; first | rw [if_pos ⟨by assumption, by assumption, by assumption⟩] | rw [if_neg (fun h => h.1 (by assumption))] | rw [if_neg (fun h => absurd h.2.1 (by assumption))] | rw [if_neg (fun h => absurd h.2.2 (by assumption))])
            have hP : va_P D vwCl [(o, .inr (8, [.ref tx, .ref r, .ref a, .ref r2, .ref a2, .ref x, .ref y, .ref z, .ref v, .ref h, .long sd])), (r, .inr (3, [.ref ro, .ref rn, .ref rr, .int rt, .int fr, .int pr, .int (nI n), .int (nI m)])), (rr, .inl (cI, 5, .inl rd)), (a, .inr (6, [.ref b])), (b, .inl (cI, 36, .inl (zPa n (nI p) (fun p => zPa n (nI q) (fun q => if zTO f rd p q then upd f (30 + q) (f (25 + p)) else f) f) f))), (x, .inr (0, [.ref xs, .int (nI (zPa n (nI p) (fun p => zPa n (nI q) (fun q => if zTO f rd p q then zcn cn else cn) cn) cn)), .int (nI (zPa n (nI p) (fun p => zPa n (nI q) (fun q => if zTO f rd p q then znx nx else nx) nx) nx))])), (xs, .inl (cI, 432, .inl (zPa n (nI p) (fun p => zPa n (nI q) (fun q => if zTO f rd p q then va_cpy f sf 0 (nx * 36) 36 else sf) sf) sf)))] H := Eq.subst (motive := fun zz_ => va_P D vwCl [(o, .inr (8, [.ref tx, .ref r, .ref a, .ref r2, .ref a2, .ref x, .ref y, .ref z, .ref v, .ref h, .long sd])), (r, .inr (3, [.ref ro, .ref rn, .ref rr, .int rt, .int fr, .int pr, .int (nI n), .int (nI m)])), (rr, .inl (cI, 5, .inl rd)), (a, .inr (6, [.ref b])), (b, .inl (cI, 36, .inl (zPa n (nI p) (fun p => zPa n (nI q) (fun q => if zTO f rd p q then upd f (30 + q) (f (25 + p)) else f) f) f))), (x, .inr (0, [.ref xs, .int (nI (zPa n (nI p) (fun p => zPa n (nI q) (fun q => if zTO f rd p q then zcn cn else cn) cn) cn)), .int (nI (zPa n (nI p) (fun p => zPa n (nI q) (fun q => if zTO f rd p q then znx nx else nx) nx) nx))])), (xs, .inl (cI, 432, .inl zz_))] H) e_39 hP
            have hD : va_D A [(o, .inr (8, [.ref tx, .ref r, .ref a, .ref r2, .ref a2, .ref x, .ref y, .ref z, .ref v, .ref h, .long sd])), (r, .inr (3, [.ref ro, .ref rn, .ref rr, .int rt, .int fr, .int pr, .int (nI n), .int (nI m)])), (rr, .inl (cI, 5, .inl rd)), (a, .inr (6, [.ref b])), (b, .inl (cI, 36, .inl (zPa n (nI p) (fun p => zPa n (nI q) (fun q => if zTO f rd p q then upd f (30 + q) (f (25 + p)) else f) f) f))), (x, .inr (0, [.ref xs, .int (nI (zPa n (nI p) (fun p => zPa n (nI q) (fun q => if zTO f rd p q then zcn cn else cn) cn) cn)), .int (nI (zPa n (nI p) (fun p => zPa n (nI q) (fun q => if zTO f rd p q then znx nx else nx) nx) nx))])), (xs, .inl (cI, 432, .inl (zPa n (nI p) (fun p => zPa n (nI q) (fun q => if zTO f rd p q then va_cpy f sf 0 (nx * 36) 36 else sf) sf) sf)))] := zD_of hD rfl
            exact z_iret Z () (by first | rw [zPa_n (by assumption)] | (rw [zPa_y hp hn, zPa_n (by assumption)]) | (rw [zPa_y hp hn, zPa_y hq hn]; first | rw [if_pos ⟨by assumption, by assumption, by assumption⟩] | rw [if_neg (fun h => h.1 (by assumption))] | rw [if_neg (fun h => absurd h.2.1 (by assumption))] | rw [if_neg (fun h => absurd h.2.2 (by assumption))])) hP hS dX8_tellOn_64
    · have c_10 := zb0 c_10
      refine lv_iconst (v := -1) hx hb dX8_tellOn_22 (by decide) ?_
      have e_40 : f = (zPa n (nI p) (fun p => zPa n x2 (fun q => if zTO f rd p q then upd f (30 + q) (f (25 + p)) else f) f) f) := by first | rw [zPa_n (by assumption)] | (rw [zPa_y hp hn, zPa_n (by assumption)]) | (rw [zPa_y hp hn, zPa_y hq hn]; first | rw [if_pos ⟨by assumption, by assumption, by assumption⟩] | rw [if_neg (fun h => h.1 (by assumption))] | rw [if_neg (fun h => absurd h.2.1 (by assumption))] | rw [if_neg (fun h => absurd h.2.2 (by assumption))])
      have hP : va_P D vwCl [(o, .inr (8, [.ref tx, .ref r, .ref a, .ref r2, .ref a2, .ref x, .ref y, .ref z, .ref v, .ref h, .long sd])), (r, .inr (3, [.ref ro, .ref rn, .ref rr, .int rt, .int fr, .int pr, .int (nI n), .int (nI m)])), (rr, .inl (cI, 5, .inl rd)), (a, .inr (6, [.ref b])), (b, .inl (cI, 36, .inl (zPa n (nI p) (fun p => zPa n x2 (fun q => if zTO f rd p q then upd f (30 + q) (f (25 + p)) else f) f) f))), (x, .inr (0, [.ref xs, .int (nI cn), .int (nI nx)])), (xs, .inl (cI, 432, .inl sf))] H := Eq.subst (motive := fun zz_ => va_P D vwCl [(o, .inr (8, [.ref tx, .ref r, .ref a, .ref r2, .ref a2, .ref x, .ref y, .ref z, .ref v, .ref h, .long sd])), (r, .inr (3, [.ref ro, .ref rn, .ref rr, .int rt, .int fr, .int pr, .int (nI n), .int (nI m)])), (rr, .inl (cI, 5, .inl rd)), (a, .inr (6, [.ref b])), (b, .inl (cI, 36, .inl zz_)), (x, .inr (0, [.ref xs, .int (nI cn), .int (nI nx)])), (xs, .inl (cI, 432, .inl sf))] H) e_40 hP
      have e_41 : nI cn = nI (zPa n (nI p) (fun p => zPa n x2 (fun q => if zTO f rd p q then zcn cn else cn) cn) cn) := by first | rw [zPa_n (by assumption)] | (rw [zPa_y hp hn, zPa_n (by assumption)]) | (rw [zPa_y hp hn, zPa_y hq hn]; first | rw [if_pos ⟨by assumption, by assumption, by assumption⟩] | rw [if_neg (fun h => h.1 (by assumption))] | rw [if_neg (fun h => absurd h.2.1 (by assumption))] | rw [if_neg (fun h => absurd h.2.2 (by assumption))])
      have hP : va_P D vwCl [(o, .inr (8, [.ref tx, .ref r, .ref a, .ref r2, .ref a2, .ref x, .ref y, .ref z, .ref v, .ref h, .long sd])), (r, .inr (3, [.ref ro, .ref rn, .ref rr, .int rt, .int fr, .int pr, .int (nI n), .int (nI m)])), (rr, .inl (cI, 5, .inl rd)), (a, .inr (6, [.ref b])), (b, .inl (cI, 36, .inl (zPa n (nI p) (fun p => zPa n x2 (fun q => if zTO f rd p q then upd f (30 + q) (f (25 + p)) else f) f) f))), (x, .inr (0, [.ref xs, .int (nI (zPa n (nI p) (fun p => zPa n x2 (fun q => if zTO f rd p q then zcn cn else cn) cn) cn)), .int (nI nx)])), (xs, .inl (cI, 432, .inl sf))] H := Eq.subst (motive := fun zz_ => va_P D vwCl [(o, .inr (8, [.ref tx, .ref r, .ref a, .ref r2, .ref a2, .ref x, .ref y, .ref z, .ref v, .ref h, .long sd])), (r, .inr (3, [.ref ro, .ref rn, .ref rr, .int rt, .int fr, .int pr, .int (nI n), .int (nI m)])), (rr, .inl (cI, 5, .inl rd)), (a, .inr (6, [.ref b])), (b, .inl (cI, 36, .inl (zPa n (nI p) (fun p => zPa n x2 (fun q => if zTO f rd p q then upd f (30 + q) (f (25 + p)) else f) f) f))), (x, .inr (0, [.ref xs, .int zz_, .int (nI nx)])), (xs, .inl (cI, 432, .inl sf))] H) e_41 hP
      have e_42 : nI nx = nI (zPa n (nI p) (fun p => zPa n x2 (fun q => if zTO f rd p q then znx nx else nx) nx) nx) := by first | rw [zPa_n (by assumption)] | (rw [zPa_y hp hn, zPa_n (by assumption)]) | (rw [zPa_y hp hn, zPa_y hq hn]; first | rw [if_pos ⟨by assumption, by assumption, by assumption⟩] | rw [if_neg (fun h => h.1 (by assumption))] | rw [if_neg (fun h => absurd h.2.1 (by assumption))] | rw [if_neg (fun h => absurd h.2.2 (by assumption))])
      have hP : va_P D vwCl [(o, .inr (8, [.ref tx, .ref r, .ref a, .ref r2, .ref a2, .ref x, .ref y, .ref z, .ref v, .ref h, .long sd])), (r, .inr (3, [.ref ro, .ref rn, .ref rr, .int rt, .int fr, .int pr, .int (nI n), .int (nI m)])), (rr, .inl (cI, 5, .inl rd)), (a, .inr (6, [.ref b])), (b, .inl (cI, 36, .inl (zPa n (nI p) (fun p => zPa n x2 (fun q => if zTO f rd p q then upd f (30 + q) (f (25 + p)) else f) f) f))), (x, .inr (0, [.ref xs, .int (nI (zPa n (nI p) (fun p => zPa n x2 (fun q => if zTO f rd p q then zcn cn else cn) cn) cn)), .int (nI (zPa n (nI p) (fun p => zPa n x2 (fun q => if zTO f rd p q then znx nx else nx) nx) nx))])), (xs, .inl (cI, 432, .inl sf))] H := Eq.subst (motive := fun zz_ => va_P D vwCl [(o, .inr (8, [.ref tx, .ref r, .ref a, .ref r2, .ref a2, .ref x, .ref y, .ref z, .ref v, .ref h, .long sd])), (r, .inr (3, [.ref ro, .ref rn, .ref rr, .int rt, .int fr, .int pr, .int (nI n), .int (nI m)])), (rr, .inl (cI, 5, .inl rd)), (a, .inr (6, [.ref b])), (b, .inl (cI, 36, .inl (zPa n (nI p) (fun p => zPa n x2 (fun q => if zTO f rd p q then upd f (30 + q) (f (25 + p)) else f) f) f))), (x, .inr (0, [.ref xs, .int (nI (zPa n (nI p) (fun p => zPa n x2 (fun q => if zTO f rd p q then zcn cn else cn) cn) cn)), .int zz_])), (xs, .inl (cI, 432, .inl sf))] H) e_42 hP
      have e_43 : sf = (zPa n (nI p) (fun p => zPa n x2 (fun q => if zTO f rd p q then va_cpy f sf 0 (nx * 36) 36 else sf) sf) sf) := by first | rw [zPa_n (by assumption)] | (rw [zPa_y hp hn, zPa_n (by assumption)]) | (rw [zPa_y hp hn, zPa_y hq hn]; first | rw [if_pos ⟨by assumption, by assumption, by assumption⟩] | rw [if_neg (fun h => h.1 (by assumption))] | rw [if_neg (fun h => absurd h.2.1 (by assumption))] | rw [if_neg (fun h => absurd h.2.2 (by assumption))])
      have hP : va_P D vwCl [(o, .inr (8, [.ref tx, .ref r, .ref a, .ref r2, .ref a2, .ref x, .ref y, .ref z, .ref v, .ref h, .long sd])), (r, .inr (3, [.ref ro, .ref rn, .ref rr, .int rt, .int fr, .int pr, .int (nI n), .int (nI m)])), (rr, .inl (cI, 5, .inl rd)), (a, .inr (6, [.ref b])), (b, .inl (cI, 36, .inl (zPa n (nI p) (fun p => zPa n x2 (fun q => if zTO f rd p q then upd f (30 + q) (f (25 + p)) else f) f) f))), (x, .inr (0, [.ref xs, .int (nI (zPa n (nI p) (fun p => zPa n x2 (fun q => if zTO f rd p q then zcn cn else cn) cn) cn)), .int (nI (zPa n (nI p) (fun p => zPa n x2 (fun q => if zTO f rd p q then znx nx else nx) nx) nx))])), (xs, .inl (cI, 432, .inl (zPa n (nI p) (fun p => zPa n x2 (fun q => if zTO f rd p q then va_cpy f sf 0 (nx * 36) 36 else sf) sf) sf)))] H := Eq.subst (motive := fun zz_ => va_P D vwCl [(o, .inr (8, [.ref tx, .ref r, .ref a, .ref r2, .ref a2, .ref x, .ref y, .ref z, .ref v, .ref h, .long sd])), (r, .inr (3, [.ref ro, .ref rn, .ref rr, .int rt, .int fr, .int pr, .int (nI n), .int (nI m)])), (rr, .inl (cI, 5, .inl rd)), (a, .inr (6, [.ref b])), (b, .inl (cI, 36, .inl (zPa n (nI p) (fun p => zPa n x2 (fun q => if zTO f rd p q then upd f (30 + q) (f (25 + p)) else f) f) f))), (x, .inr (0, [.ref xs, .int (nI (zPa n (nI p) (fun p => zPa n x2 (fun q => if zTO f rd p q then zcn cn else cn) cn) cn)), .int (nI (zPa n (nI p) (fun p => zPa n x2 (fun q => if zTO f rd p q then znx nx else nx) nx) nx))])), (xs, .inl (cI, 432, .inl zz_))] H) e_43 hP
      have hD : va_D A [(o, .inr (8, [.ref tx, .ref r, .ref a, .ref r2, .ref a2, .ref x, .ref y, .ref z, .ref v, .ref h, .long sd])), (r, .inr (3, [.ref ro, .ref rn, .ref rr, .int rt, .int fr, .int pr, .int (nI n), .int (nI m)])), (rr, .inl (cI, 5, .inl rd)), (a, .inr (6, [.ref b])), (b, .inl (cI, 36, .inl (zPa n (nI p) (fun p => zPa n x2 (fun q => if zTO f rd p q then upd f (30 + q) (f (25 + p)) else f) f) f))), (x, .inr (0, [.ref xs, .int (nI (zPa n (nI p) (fun p => zPa n x2 (fun q => if zTO f rd p q then zcn cn else cn) cn) cn)), .int (nI (zPa n (nI p) (fun p => zPa n x2 (fun q => if zTO f rd p q then znx nx else nx) nx) nx))])), (xs, .inl (cI, 432, .inl (zPa n (nI p) (fun p => zPa n x2 (fun q => if zTO f rd p q then va_cpy f sf 0 (nx * 36) 36 else sf) sf) sf)))] := zD_of hD rfl
      exact z_iret Z () (by first | rw [zPa_n (by assumption)] | (rw [zPa_y hp hn, zPa_n (by assumption)]) | (rw [zPa_y hp hn, zPa_y hq hn]; first | rw [if_pos ⟨by assumption, by assumption, by assumption⟩] | rw [if_neg (fun h => h.1 (by assumption))] | rw [if_neg (fun h => absurd h.2.1 (by assumption))] | rw [if_neg (fun h => absurd h.2.2 (by assumption))])) hP hS dX8_tellOn_23

theorem dX8_event_0 : decode cX8_event 0 = .ok (.iload_n 1, 1) := by decide +kernel
theorem dX8_event_1 : decode cX8_event 1 = .ok (.invokestatic 130, 3) := by decide +kernel
theorem dX8_event_4 : decode cX8_event 4 = .ok (.ifCond .ne 6, 3) := by decide +kernel
theorem dX8_event_7 : decode cX8_event 7 = .ok (.bipush (-2), 2) := by decide +kernel
theorem dX8_event_9 : decode cX8_event 9 = .ok (.ireturn, 1) := by decide +kernel
theorem dX8_event_10 : decode cX8_event 10 = .ok (.aload_n 0, 1) := by decide +kernel
theorem dX8_event_11 : decode cX8_event 11 = .ok (.getfield 39, 3) := by decide +kernel
theorem dX8_event_14 : decode cX8_event 14 = .ok (.aload_n 0, 1) := by decide +kernel
theorem dX8_event_15 : decode cX8_event 15 = .ok (.getfield 26, 3) := by decide +kernel
theorem dX8_event_18 : decode cX8_event 18 = .ok (.invokevirtual 154, 3) := by decide +kernel
theorem dX8_event_21 : decode cX8_event 21 = .ok (.aload_n 0, 1) := by decide +kernel
theorem dX8_event_22 : decode cX8_event 22 = .ok (.getfield 19, 3) := by decide +kernel
theorem dX8_event_25 : decode cX8_event 25 = .ok (.aload_n 0, 1) := by decide +kernel
theorem dX8_event_26 : decode cX8_event 26 = .ok (.getfield 26, 3) := by decide +kernel
theorem dX8_event_29 : decode cX8_event 29 = .ok (.iload_n 1, 1) := by decide +kernel
theorem dX8_event_30 : decode cX8_event 30 = .ok (.invokevirtual 175, 3) := by decide +kernel
theorem dX8_event_33 : decode cX8_event 33 = .ok (.ireturn, 1) := by decide +kernel
theorem zd_X8_event : yX8_event.cls ≠ "java/lang/invoke/MethodHandle" ∧ yX8_event.cls ≠ "java/lang/invoke/VarHandle" ∧ (parseMethodDescriptor yX8_event.desc).map (fun d => d.parameters.length) = some 1 := by decide +kernel
set_option maxHeartbeats 4000000 in
set_option maxRecDepth 100000 in
theorem zc_X8_event (l : Launch) (D : va_G) (cI cZ : ClassId) (o : Nat) (tx : Nat) (r : Nat) (a : Nat) (r2 : Nat) (a2 : Nat) (x : Nat) (y : Nat) (z : Nat) (v : Nat) (h : Nat) (sd : Int64) (ro : Nat) (rn : Nat) (rr : Nat) (rt : Int32) (fr : Int32) (pr : Int32) (n : Nat) (m : Nat) (b : Nat) (f : Nat → Int32) (xs : Nat) (cn : Nat) (nx : Nat) (sf : Nat → Int32) (x1 : Int32) (hn : n ≤ 5) (hcn : cn ≤ 12) (hnx : nx < 12) : zI l yX8_event cX8_event 2 .int 4 88 D cI cZ [.ref o, .int x1] [(o, .inr (8, [.ref tx, .ref r, .ref a, .ref r2, .ref a2, .ref x, .ref y, .ref z, .ref v, .ref h, .long sd])), (r, .inr (3, [.ref ro, .ref rn, .ref rr, .int rt, .int fr, .int pr, .int (nI n), .int (nI m)])), (a, .inr (6, [.ref b])), (b, .inl (cI, 36, .inl f)), (x, .inr (0, [.ref xs, .int (nI cn), .int (nI nx)])), (xs, .inl (cI, 432, .inl sf))] (fun (r : Int32) (u : Unit) => r = zKa x1 (fun k => zcs f rt fr k n) (-2)) (fun (u : Unit) => [(o, .inr (8, [.ref tx, .ref r, .ref a, .ref r2, .ref a2, .ref x, .ref y, .ref z, .ref v, .ref h, .long sd])), (r, .inr (3, [.ref ro, .ref rn, .ref rr, .int rt, .int fr, .int pr, .int (nI n), .int (nI m)])), (a, .inr (6, [.ref b])), (b, .inl (cI, 36, .inl (zKa x1 (fun k => zcome f rt fr n k) f))), (x, .inr (0, [.ref xs, .int (nI (zKa x1 (fun k => zcn cn) cn)), .int (nI (zKa x1 (fun k => znx nx) nx))])), (xs, .inl (cI, 432, .inl (zKa x1 (fun k => va_cpy f sf 0 (nx * 36) 36) sf)))]) := by
  refine zI_of (by decide) (Nat.le_of_ble_eq_true rfl) ?_
  intro pP eE sS mM aA bB mT cC A ls Z hP hD hS hl
  have hx := Z.1
  have hb := Z.2.1
  have hown := Z.2.2.2.2.2.1
  have hts := Z.2.2.2.2.1
  have Z : zAt pP sS mM aA mT cC D cI cZ A "SurpriseTax" cX8_event 2 (some .int) := Z
  have hl : lv_has ls 2 [(0, .ref o), (1, .int x1)] := hl
  obtain ⟨H, hH⟩ : ∃ H, H = sS.heap := ⟨_, rfl⟩
  have hP : va_P D vwCl [(o, .inr (8, [.ref tx, .ref r, .ref a, .ref r2, .ref a2, .ref x, .ref y, .ref z, .ref v, .ref h, .long sd])), (r, .inr (3, [.ref ro, .ref rn, .ref rr, .int rt, .int fr, .int pr, .int (nI n), .int (nI m)])), (a, .inr (6, [.ref b])), (b, .inl (cI, 36, .inl f)), (x, .inr (0, [.ref xs, .int (nI cn), .int (nI nx)])), (xs, .inl (cI, 432, .inl sf))] H := by rw [hH]; exact hP
  have hS : va_S A sS.heap H [] := by rw [hH]; exact hS
  rw [← hH]
  clear hH
  obtain ⟨locs, hlo⟩ : ∃ q : List Loc, q = [] := ⟨_, rfl⟩
  rw [← hlo] at hS ⊢
  clear hlo
  refine lv_iload_n hx hb dX8_event_0 rfl (lv_at hl 1 rfl) ?_
  refine z_callSi (As := [.int x1]) (rest := []) Z hP hD hS hl.1 (zc_X8_isKind l D cI cZ x1 ) zm330 zm331 zm30 zm332 zd_X8_isKind ⟨Nat.le_of_ble_eq_true rfl, Nat.le_of_ble_eq_true rfl⟩ ⟨Nat.zero_le _, Nat.zero_le _⟩ [] rfl (by decide) (fun _ => rfl) rfl (Nat.le_of_ble_eq_true rfl) rfl dX8_event_1 (fun r_1 u H locs h_2 hP hD hS => ?_)
  have hP : va_P D vwCl [(o, .inr (8, [.ref tx, .ref r, .ref a, .ref r2, .ref a2, .ref x, .ref y, .ref z, .ref v, .ref h, .long sd])), (r, .inr (3, [.ref ro, .ref rn, .ref rr, .int rt, .int fr, .int pr, .int (nI n), .int (nI m)])), (a, .inr (6, [.ref b])), (b, .inl (cI, 36, .inl f)), (x, .inr (0, [.ref xs, .int (nI cn), .int (nI nx)])), (xs, .inl (cI, 432, .inl sf))] H := hP
  have hD : va_D A [(o, .inr (8, [.ref tx, .ref r, .ref a, .ref r2, .ref a2, .ref x, .ref y, .ref z, .ref v, .ref h, .long sd])), (r, .inr (3, [.ref ro, .ref rn, .ref rr, .int rt, .int fr, .int pr, .int (nI n), .int (nI m)])), (a, .inr (6, [.ref b])), (b, .inl (cI, 36, .inl f)), (x, .inr (0, [.ref xs, .int (nI cn), .int (nI nx)])), (xs, .inl (cI, 432, .inl sf))] := hD
  have h_2 : r_1 = if zkind x1 then 1 else 0 := h_2
  subst h_2
  refine lv_if_ne (tgt := 10) hx hb dX8_event_4 (by decide) (fun c_3 => ?_) (fun c_3 => ?_)
  · have c_3 := zb1 c_3
    obtain ⟨k, hk, rfl⟩ := zkind_of c_3
    refine lv_aload_n hx hb dX8_event_10 rfl (lv_at hl 0 rfl) ?_
    refine z_get (ci := 8) (v := .ref x) Z zin8 hP 0 rfl rfl 5 (by decide) zm179 rfl rfl dX8_event_11 ?_
    refine lv_aload_n hx hb dX8_event_14 rfl (lv_at hl 0 rfl) ?_
    refine z_get (ci := 8) (v := .ref a) Z zin8 hP 0 rfl rfl 2 (by decide) zm176 rfl rfl dX8_event_15 ?_
    refine z_callVv (As := [.ref a]) (rest := []) (ci := 0) (k0 := 0) Z hP hD hS hl.1 (zc_X0_remember l D cI cZ x xs cn nx sf a b f (by omega) (by omega)) zm351 zm352 zm353 zm34 zm354 ⟨rfl, zd_X0_remember⟩ ⟨Nat.le_of_ble_eq_true rfl, Nat.le_of_ble_eq_true rfl⟩ ⟨Nat.zero_le _, Nat.zero_le _⟩ [4, 5, 2, 3] rfl (by decide) rfl rfl rfl (fun _ => rfl) rfl (Nat.le_of_ble_eq_true rfl) rfl dX8_event_18 (fun u H locs h_5 hP hD hS => ?_)
    have hP : va_P D vwCl [(o, .inr (8, [.ref tx, .ref r, .ref a, .ref r2, .ref a2, .ref x, .ref y, .ref z, .ref v, .ref h, .long sd])), (r, .inr (3, [.ref ro, .ref rn, .ref rr, .int rt, .int fr, .int pr, .int (nI n), .int (nI m)])), (a, .inr (6, [.ref b])), (b, .inl (cI, 36, .inl f)), (x, .inr (0, [.ref xs, .int (nI (zcn cn)), .int (nI (znx nx))])), (xs, .inl (cI, 432, .inl (va_cpy f sf 0 (nx * 36) 36)))] H := hP
    have hD : va_D A [(o, .inr (8, [.ref tx, .ref r, .ref a, .ref r2, .ref a2, .ref x, .ref y, .ref z, .ref v, .ref h, .long sd])), (r, .inr (3, [.ref ro, .ref rn, .ref rr, .int rt, .int fr, .int pr, .int (nI n), .int (nI m)])), (a, .inr (6, [.ref b])), (b, .inl (cI, 36, .inl f)), (x, .inr (0, [.ref xs, .int (nI (zcn cn)), .int (nI (znx nx))])), (xs, .inl (cI, 432, .inl (va_cpy f sf 0 (nx * 36) 36)))] := hD
    refine lv_aload_n hx hb dX8_event_21 rfl (lv_at hl 0 rfl) ?_
    refine z_get (ci := 8) (v := .ref r) Z zin8 hP 0 rfl rfl 1 (by decide) zm175 rfl rfl dX8_event_22 ?_
    refine lv_aload_n hx hb dX8_event_25 rfl (lv_at hl 0 rfl) ?_
    refine z_get (ci := 8) (v := .ref a) Z zin8 hP 0 rfl rfl 2 (by decide) zm176 rfl rfl dX8_event_26 ?_
    refine lv_iload_n hx hb dX8_event_29 rfl (lv_at hl 1 rfl) ?_
    refine z_callVi (As := [.ref a, .int (nI k)]) (rest := []) (ci := 3) (k0 := 0) Z hP hD hS hl.1 (zc_X3_come l D cI cZ r ro rn rr rt fr pr n m a b f k (by omega) (by omega)) zm387 zm388 zm389 zm32 zm390 ⟨rfl, zd_X3_come⟩ ⟨Nat.le_of_ble_eq_true rfl, Nat.le_of_ble_eq_true rfl⟩ ⟨Nat.zero_le _, Nat.zero_le _⟩ [1, 2, 3] rfl (by decide) rfl rfl rfl (fun _ => rfl) rfl (Nat.le_of_ble_eq_true rfl) rfl dX8_event_30 (fun r_6 u H locs h_7 hP hD hS => ?_)
    have hP : va_P D vwCl [(o, .inr (8, [.ref tx, .ref r, .ref a, .ref r2, .ref a2, .ref x, .ref y, .ref z, .ref v, .ref h, .long sd])), (r, .inr (3, [.ref ro, .ref rn, .ref rr, .int rt, .int fr, .int pr, .int (nI n), .int (nI m)])), (a, .inr (6, [.ref b])), (b, .inl (cI, 36, .inl (zcome f rt fr n k))), (x, .inr (0, [.ref xs, .int (nI (zcn cn)), .int (nI (znx nx))])), (xs, .inl (cI, 432, .inl (va_cpy f sf 0 (nx * 36) 36)))] H := hP
    have hD : va_D A [(o, .inr (8, [.ref tx, .ref r, .ref a, .ref r2, .ref a2, .ref x, .ref y, .ref z, .ref v, .ref h, .long sd])), (r, .inr (3, [.ref ro, .ref rn, .ref rr, .int rt, .int fr, .int pr, .int (nI n), .int (nI m)])), (a, .inr (6, [.ref b])), (b, .inl (cI, 36, .inl (zcome f rt fr n k))), (x, .inr (0, [.ref xs, .int (nI (zcn cn)), .int (nI (znx nx))])), (xs, .inl (cI, 432, .inl (va_cpy f sf 0 (nx * 36) 36)))] := hD
    have h_7 : r_6 = zcs f rt fr k n := h_7
    subst h_7
    have e_8 : zcome f rt fr n k = (zKa (nI k) (fun k => zcome f rt fr n k) f) := by first | rw [zKa_n (by assumption)] | rw [zKa_y hk]
    have hP : va_P D vwCl [(o, .inr (8, [.ref tx, .ref r, .ref a, .ref r2, .ref a2, .ref x, .ref y, .ref z, .ref v, .ref h, .long sd])), (r, .inr (3, [.ref ro, .ref rn, .ref rr, .int rt, .int fr, .int pr, .int (nI n), .int (nI m)])), (a, .inr (6, [.ref b])), (b, .inl (cI, 36, .inl (zKa (nI k) (fun k => zcome f rt fr n k) f))), (x, .inr (0, [.ref xs, .int (nI (zcn cn)), .int (nI (znx nx))])), (xs, .inl (cI, 432, .inl (va_cpy f sf 0 (nx * 36) 36)))] H := Eq.subst (motive := fun zz_ => va_P D vwCl [(o, .inr (8, [.ref tx, .ref r, .ref a, .ref r2, .ref a2, .ref x, .ref y, .ref z, .ref v, .ref h, .long sd])), (r, .inr (3, [.ref ro, .ref rn, .ref rr, .int rt, .int fr, .int pr, .int (nI n), .int (nI m)])), (a, .inr (6, [.ref b])), (b, .inl (cI, 36, .inl zz_)), (x, .inr (0, [.ref xs, .int (nI (zcn cn)), .int (nI (znx nx))])), (xs, .inl (cI, 432, .inl (va_cpy f sf 0 (nx * 36) 36)))] H) e_8 hP
    have e_9 : nI (zcn cn) = nI (zKa (nI k) (fun k => zcn cn) cn) := by first | rw [zKa_n (by assumption)] | rw [zKa_y hk]
    have hP : va_P D vwCl [(o, .inr (8, [.ref tx, .ref r, .ref a, .ref r2, .ref a2, .ref x, .ref y, .ref z, .ref v, .ref h, .long sd])), (r, .inr (3, [.ref ro, .ref rn, .ref rr, .int rt, .int fr, .int pr, .int (nI n), .int (nI m)])), (a, .inr (6, [.ref b])), (b, .inl (cI, 36, .inl (zKa (nI k) (fun k => zcome f rt fr n k) f))), (x, .inr (0, [.ref xs, .int (nI (zKa (nI k) (fun k => zcn cn) cn)), .int (nI (znx nx))])), (xs, .inl (cI, 432, .inl (va_cpy f sf 0 (nx * 36) 36)))] H := Eq.subst (motive := fun zz_ => va_P D vwCl [(o, .inr (8, [.ref tx, .ref r, .ref a, .ref r2, .ref a2, .ref x, .ref y, .ref z, .ref v, .ref h, .long sd])), (r, .inr (3, [.ref ro, .ref rn, .ref rr, .int rt, .int fr, .int pr, .int (nI n), .int (nI m)])), (a, .inr (6, [.ref b])), (b, .inl (cI, 36, .inl (zKa (nI k) (fun k => zcome f rt fr n k) f))), (x, .inr (0, [.ref xs, .int zz_, .int (nI (znx nx))])), (xs, .inl (cI, 432, .inl (va_cpy f sf 0 (nx * 36) 36)))] H) e_9 hP
    have e_10 : nI (znx nx) = nI (zKa (nI k) (fun k => znx nx) nx) := by first | rw [zKa_n (by assumption)] | rw [zKa_y hk]
    have hP : va_P D vwCl [(o, .inr (8, [.ref tx, .ref r, .ref a, .ref r2, .ref a2, .ref x, .ref y, .ref z, .ref v, .ref h, .long sd])), (r, .inr (3, [.ref ro, .ref rn, .ref rr, .int rt, .int fr, .int pr, .int (nI n), .int (nI m)])), (a, .inr (6, [.ref b])), (b, .inl (cI, 36, .inl (zKa (nI k) (fun k => zcome f rt fr n k) f))), (x, .inr (0, [.ref xs, .int (nI (zKa (nI k) (fun k => zcn cn) cn)), .int (nI (zKa (nI k) (fun k => znx nx) nx))])), (xs, .inl (cI, 432, .inl (va_cpy f sf 0 (nx * 36) 36)))] H := Eq.subst (motive := fun zz_ => va_P D vwCl [(o, .inr (8, [.ref tx, .ref r, .ref a, .ref r2, .ref a2, .ref x, .ref y, .ref z, .ref v, .ref h, .long sd])), (r, .inr (3, [.ref ro, .ref rn, .ref rr, .int rt, .int fr, .int pr, .int (nI n), .int (nI m)])), (a, .inr (6, [.ref b])), (b, .inl (cI, 36, .inl (zKa (nI k) (fun k => zcome f rt fr n k) f))), (x, .inr (0, [.ref xs, .int (nI (zKa (nI k) (fun k => zcn cn) cn)), .int zz_])), (xs, .inl (cI, 432, .inl (va_cpy f sf 0 (nx * 36) 36)))] H) e_10 hP
    have e_11 : va_cpy f sf 0 (nx * 36) 36 = (zKa (nI k) (fun k => va_cpy f sf 0 (nx * 36) 36) sf) := by first | rw [zKa_n (by assumption)] | rw [zKa_y hk]
    have hP : va_P D vwCl [(o, .inr (8, [.ref tx, .ref r, .ref a, .ref r2, .ref a2, .ref x, .ref y, .ref z, .ref v, .ref h, .long sd])), (r, .inr (3, [.ref ro, .ref rn, .ref rr, .int rt, .int fr, .int pr, .int (nI n), .int (nI m)])), (a, .inr (6, [.ref b])), (b, .inl (cI, 36, .inl (zKa (nI k) (fun k => zcome f rt fr n k) f))), (x, .inr (0, [.ref xs, .int (nI (zKa (nI k) (fun k => zcn cn) cn)), .int (nI (zKa (nI k) (fun k => znx nx) nx))])), (xs, .inl (cI, 432, .inl (zKa (nI k) (fun k => va_cpy f sf 0 (nx * 36) 36) sf)))] H := Eq.subst (motive := fun zz_ => va_P D vwCl [(o, .inr (8, [.ref tx, .ref r, .ref a, .ref r2, .ref a2, .ref x, .ref y, .ref z, .ref v, .ref h, .long sd])), (r, .inr (3, [.ref ro, .ref rn, .ref rr, .int rt, .int fr, .int pr, .int (nI n), .int (nI m)])), (a, .inr (6, [.ref b])), (b, .inl (cI, 36, .inl (zKa (nI k) (fun k => zcome f rt fr n k) f))), (x, .inr (0, [.ref xs, .int (nI (zKa (nI k) (fun k => zcn cn) cn)), .int (nI (zKa (nI k) (fun k => znx nx) nx))])), (xs, .inl (cI, 432, .inl zz_))] H) e_11 hP
    have hD : va_D A [(o, .inr (8, [.ref tx, .ref r, .ref a, .ref r2, .ref a2, .ref x, .ref y, .ref z, .ref v, .ref h, .long sd])), (r, .inr (3, [.ref ro, .ref rn, .ref rr, .int rt, .int fr, .int pr, .int (nI n), .int (nI m)])), (a, .inr (6, [.ref b])), (b, .inl (cI, 36, .inl (zKa (nI k) (fun k => zcome f rt fr n k) f))), (x, .inr (0, [.ref xs, .int (nI (zKa (nI k) (fun k => zcn cn) cn)), .int (nI (zKa (nI k) (fun k => znx nx) nx))])), (xs, .inl (cI, 432, .inl (zKa (nI k) (fun k => va_cpy f sf 0 (nx * 36) 36) sf)))] := zD_of hD rfl
    exact z_iret Z () (by first | rw [zKa_n (by assumption)] | rw [zKa_y hk]) hP hS dX8_event_33
  · have c_3 := zb0 c_3
    refine lv_bipush (v := -2) hx hb dX8_event_7 (by decide) ?_
    have e_12 : f = (zKa x1 (fun k => zcome f rt fr n k) f) := by first | rw [zKa_n (by assumption)] | rw [zKa_y hk]
    have hP : va_P D vwCl [(o, .inr (8, [.ref tx, .ref r, .ref a, .ref r2, .ref a2, .ref x, .ref y, .ref z, .ref v, .ref h, .long sd])), (r, .inr (3, [.ref ro, .ref rn, .ref rr, .int rt, .int fr, .int pr, .int (nI n), .int (nI m)])), (a, .inr (6, [.ref b])), (b, .inl (cI, 36, .inl (zKa x1 (fun k => zcome f rt fr n k) f))), (x, .inr (0, [.ref xs, .int (nI cn), .int (nI nx)])), (xs, .inl (cI, 432, .inl sf))] H := Eq.subst (motive := fun zz_ => va_P D vwCl [(o, .inr (8, [.ref tx, .ref r, .ref a, .ref r2, .ref a2, .ref x, .ref y, .ref z, .ref v, .ref h, .long sd])), (r, .inr (3, [.ref ro, .ref rn, .ref rr, .int rt, .int fr, .int pr, .int (nI n), .int (nI m)])), (a, .inr (6, [.ref b])), (b, .inl (cI, 36, .inl zz_)), (x, .inr (0, [.ref xs, .int (nI cn), .int (nI nx)])), (xs, .inl (cI, 432, .inl sf))] H) e_12 hP
    have e_13 : nI cn = nI (zKa x1 (fun k => zcn cn) cn) := by first | rw [zKa_n (by assumption)] | rw [zKa_y hk]
    have hP : va_P D vwCl [(o, .inr (8, [.ref tx, .ref r, .ref a, .ref r2, .ref a2, .ref x, .ref y, .ref z, .ref v, .ref h, .long sd])), (r, .inr (3, [.ref ro, .ref rn, .ref rr, .int rt, .int fr, .int pr, .int (nI n), .int (nI m)])), (a, .inr (6, [.ref b])), (b, .inl (cI, 36, .inl (zKa x1 (fun k => zcome f rt fr n k) f))), (x, .inr (0, [.ref xs, .int (nI (zKa x1 (fun k => zcn cn) cn)), .int (nI nx)])), (xs, .inl (cI, 432, .inl sf))] H := Eq.subst (motive := fun zz_ => va_P D vwCl [(o, .inr (8, [.ref tx, .ref r, .ref a, .ref r2, .ref a2, .ref x, .ref y, .ref z, .ref v, .ref h, .long sd])), (r, .inr (3, [.ref ro, .ref rn, .ref rr, .int rt, .int fr, .int pr, .int (nI n), .int (nI m)])), (a, .inr (6, [.ref b])), (b, .inl (cI, 36, .inl (zKa x1 (fun k => zcome f rt fr n k) f))), (x, .inr (0, [.ref xs, .int zz_, .int (nI nx)])), (xs, .inl (cI, 432, .inl sf))] H) e_13 hP
    have e_14 : nI nx = nI (zKa x1 (fun k => znx nx) nx) := by first | rw [zKa_n (by assumption)] | rw [zKa_y hk]
    have hP : va_P D vwCl [(o, .inr (8, [.ref tx, .ref r, .ref a, .ref r2, .ref a2, .ref x, .ref y, .ref z, .ref v, .ref h, .long sd])), (r, .inr (3, [.ref ro, .ref rn, .ref rr, .int rt, .int fr, .int pr, .int (nI n), .int (nI m)])), (a, .inr (6, [.ref b])), (b, .inl (cI, 36, .inl (zKa x1 (fun k => zcome f rt fr n k) f))), (x, .inr (0, [.ref xs, .int (nI (zKa x1 (fun k => zcn cn) cn)), .int (nI (zKa x1 (fun k => znx nx) nx))])), (xs, .inl (cI, 432, .inl sf))] H := Eq.subst (motive := fun zz_ => va_P D vwCl [(o, .inr (8, [.ref tx, .ref r, .ref a, .ref r2, .ref a2, .ref x, .ref y, .ref z, .ref v, .ref h, .long sd])), (r, .inr (3, [.ref ro, .ref rn, .ref rr, .int rt, .int fr, .int pr, .int (nI n), .int (nI m)])), (a, .inr (6, [.ref b])), (b, .inl (cI, 36, .inl (zKa x1 (fun k => zcome f rt fr n k) f))), (x, .inr (0, [.ref xs, .int (nI (zKa x1 (fun k => zcn cn) cn)), .int zz_])), (xs, .inl (cI, 432, .inl sf))] H) e_14 hP
    have e_15 : sf = (zKa x1 (fun k => va_cpy f sf 0 (nx * 36) 36) sf) := by first | rw [zKa_n (by assumption)] | rw [zKa_y hk]
    have hP : va_P D vwCl [(o, .inr (8, [.ref tx, .ref r, .ref a, .ref r2, .ref a2, .ref x, .ref y, .ref z, .ref v, .ref h, .long sd])), (r, .inr (3, [.ref ro, .ref rn, .ref rr, .int rt, .int fr, .int pr, .int (nI n), .int (nI m)])), (a, .inr (6, [.ref b])), (b, .inl (cI, 36, .inl (zKa x1 (fun k => zcome f rt fr n k) f))), (x, .inr (0, [.ref xs, .int (nI (zKa x1 (fun k => zcn cn) cn)), .int (nI (zKa x1 (fun k => znx nx) nx))])), (xs, .inl (cI, 432, .inl (zKa x1 (fun k => va_cpy f sf 0 (nx * 36) 36) sf)))] H := Eq.subst (motive := fun zz_ => va_P D vwCl [(o, .inr (8, [.ref tx, .ref r, .ref a, .ref r2, .ref a2, .ref x, .ref y, .ref z, .ref v, .ref h, .long sd])), (r, .inr (3, [.ref ro, .ref rn, .ref rr, .int rt, .int fr, .int pr, .int (nI n), .int (nI m)])), (a, .inr (6, [.ref b])), (b, .inl (cI, 36, .inl (zKa x1 (fun k => zcome f rt fr n k) f))), (x, .inr (0, [.ref xs, .int (nI (zKa x1 (fun k => zcn cn) cn)), .int (nI (zKa x1 (fun k => znx nx) nx))])), (xs, .inl (cI, 432, .inl zz_))] H) e_15 hP
    have hD : va_D A [(o, .inr (8, [.ref tx, .ref r, .ref a, .ref r2, .ref a2, .ref x, .ref y, .ref z, .ref v, .ref h, .long sd])), (r, .inr (3, [.ref ro, .ref rn, .ref rr, .int rt, .int fr, .int pr, .int (nI n), .int (nI m)])), (a, .inr (6, [.ref b])), (b, .inl (cI, 36, .inl (zKa x1 (fun k => zcome f rt fr n k) f))), (x, .inr (0, [.ref xs, .int (nI (zKa x1 (fun k => zcn cn) cn)), .int (nI (zKa x1 (fun k => znx nx) nx))])), (xs, .inl (cI, 432, .inl (zKa x1 (fun k => va_cpy f sf 0 (nx * 36) 36) sf)))] := zD_of hD rfl
    exact z_iret Z () (by first | rw [zKa_n (by assumption)] | rw [zKa_y hk]) hP hS dX8_event_9

theorem dX8_undo_0 : decode cX8_undo 0 = .ok (.aload_n 0, 1) := by decide +kernel
theorem dX8_undo_1 : decode cX8_undo 1 = .ok (.getfield 39, 3) := by decide +kernel
theorem dX8_undo_4 : decode cX8_undo 4 = .ok (.invokevirtual 122, 3) := by decide +kernel
theorem dX8_undo_7 : decode cX8_undo 7 = .ok (.ifCond .ne 6, 3) := by decide +kernel
theorem dX8_undo_10 : decode cX8_undo 10 = .ok (.bipush (-3), 2) := by decide +kernel
theorem dX8_undo_12 : decode cX8_undo 12 = .ok (.ireturn, 1) := by decide +kernel
theorem dX8_undo_13 : decode cX8_undo 13 = .ok (.aload_n 0, 1) := by decide +kernel
theorem dX8_undo_14 : decode cX8_undo 14 = .ok (.getfield 39, 3) := by decide +kernel
theorem dX8_undo_17 : decode cX8_undo 17 = .ok (.aload_n 0, 1) := by decide +kernel
theorem dX8_undo_18 : decode cX8_undo 18 = .ok (.getfield 26, 3) := by decide +kernel
theorem dX8_undo_21 : decode cX8_undo 21 = .ok (.invokevirtual 179, 3) := by decide +kernel
theorem dX8_undo_24 : decode cX8_undo 24 = .ok (.aload_n 0, 1) := by decide +kernel
theorem dX8_undo_25 : decode cX8_undo 25 = .ok (.getfield 39, 3) := by decide +kernel
theorem dX8_undo_28 : decode cX8_undo 28 = .ok (.invokevirtual 122, 3) := by decide +kernel
theorem dX8_undo_31 : decode cX8_undo 31 = .ok (.ireturn, 1) := by decide +kernel
theorem zd_X8_undo : yX8_undo.cls ≠ "java/lang/invoke/MethodHandle" ∧ yX8_undo.cls ≠ "java/lang/invoke/VarHandle" ∧ (parseMethodDescriptor yX8_undo.desc).map (fun d => d.parameters.length) = some 0 := by decide +kernel
set_option maxHeartbeats 4000000 in
set_option maxRecDepth 100000 in
theorem zc_X8_undo (l : Launch) (D : va_G) (cI cZ : ClassId) (o : Nat) (tx : Nat) (r : Nat) (a : Nat) (r2 : Nat) (a2 : Nat) (x : Nat) (y : Nat) (z : Nat) (v : Nat) (h : Nat) (sd : Int64) (b : Nat) (f : Nat → Int32) (xs : Nat) (cn : Nat) (nx : Nat) (sf : Nat → Int32) (hcn : cn ≤ 12) (hnx : nx < 12) : zI l yX8_undo cX8_undo 1 .int 3 61 D cI cZ [.ref o] [(o, .inr (8, [.ref tx, .ref r, .ref a, .ref r2, .ref a2, .ref x, .ref y, .ref z, .ref v, .ref h, .long sd])), (a, .inr (6, [.ref b])), (b, .inl (cI, 36, .inl f)), (x, .inr (0, [.ref xs, .int (nI cn), .int (nI nx)])), (xs, .inl (cI, 432, .inl sf))] (fun (r : Int32) (u : Unit) => r = if cn = 0 then -3 else nI (cn - 1)) (fun (u : Unit) => [(o, .inr (8, [.ref tx, .ref r, .ref a, .ref r2, .ref a2, .ref x, .ref y, .ref z, .ref v, .ref h, .long sd])), (a, .inr (6, [.ref b])), (b, .inl (cI, 36, .inl (if cn = 0 then f else va_cpy sf f (zpx nx * 36) 0 36))), (x, .inr (0, [.ref xs, .int (nI (cn - 1)), .int (nI (if cn = 0 then nx else zpx nx))])), (xs, .inl (cI, 432, .inl sf))]) := by
  refine zI_of (by decide) (Nat.le_of_ble_eq_true rfl) ?_
  intro pP eE sS mM aA bB mT cC A ls Z hP hD hS hl
  have hx := Z.1
  have hb := Z.2.1
  have hown := Z.2.2.2.2.2.1
  have hts := Z.2.2.2.2.1
  have Z : zAt pP sS mM aA mT cC D cI cZ A "SurpriseTax" cX8_undo 1 (some .int) := Z
  have hl : lv_has ls 1 [(0, .ref o)] := hl
  obtain ⟨H, hH⟩ : ∃ H, H = sS.heap := ⟨_, rfl⟩
  have hP : va_P D vwCl [(o, .inr (8, [.ref tx, .ref r, .ref a, .ref r2, .ref a2, .ref x, .ref y, .ref z, .ref v, .ref h, .long sd])), (a, .inr (6, [.ref b])), (b, .inl (cI, 36, .inl f)), (x, .inr (0, [.ref xs, .int (nI cn), .int (nI nx)])), (xs, .inl (cI, 432, .inl sf))] H := by rw [hH]; exact hP
  have hS : va_S A sS.heap H [] := by rw [hH]; exact hS
  rw [← hH]
  clear hH
  obtain ⟨locs, hlo⟩ : ∃ q : List Loc, q = [] := ⟨_, rfl⟩
  rw [← hlo] at hS ⊢
  clear hlo
  refine lv_aload_n hx hb dX8_undo_0 rfl (lv_at hl 0 rfl) ?_
  refine z_get (ci := 8) (v := .ref x) Z zin8 hP 0 rfl rfl 5 (by decide) zm179 rfl rfl dX8_undo_1 ?_
  refine z_callVi (As := []) (rest := []) (ci := 0) (k0 := 0) Z hP hD hS hl.1 (zc_X0_count l D cI cZ x xs cn nx ) zm317 zm318 zm319 zm34 zm320 ⟨rfl, zd_X0_count⟩ ⟨Nat.le_of_ble_eq_true rfl, Nat.le_of_ble_eq_true rfl⟩ ⟨Nat.zero_le _, Nat.zero_le _⟩ [3] rfl (by decide) rfl rfl rfl (fun _ => rfl) rfl (Nat.le_of_ble_eq_true rfl) rfl dX8_undo_4 (fun r_1 u H locs h_2 hP hD hS => ?_)
  have hP : va_P D vwCl [(o, .inr (8, [.ref tx, .ref r, .ref a, .ref r2, .ref a2, .ref x, .ref y, .ref z, .ref v, .ref h, .long sd])), (a, .inr (6, [.ref b])), (b, .inl (cI, 36, .inl f)), (x, .inr (0, [.ref xs, .int (nI cn), .int (nI nx)])), (xs, .inl (cI, 432, .inl sf))] H := hP
  have hD : va_D A [(o, .inr (8, [.ref tx, .ref r, .ref a, .ref r2, .ref a2, .ref x, .ref y, .ref z, .ref v, .ref h, .long sd])), (a, .inr (6, [.ref b])), (b, .inl (cI, 36, .inl f)), (x, .inr (0, [.ref xs, .int (nI cn), .int (nI nx)])), (xs, .inl (cI, 432, .inl sf))] := hD
  have h_2 : r_1 = nI cn := h_2
  subst h_2
  refine lv_if_ne (tgt := 13) hx hb dX8_undo_7 (by decide) (fun c_3 => ?_) (fun c_3 => ?_)
  · have c_3 := zne (i := cn) (j := 0) c_3
    refine lv_aload_n hx hb dX8_undo_13 rfl (lv_at hl 0 rfl) ?_
    refine z_get (ci := 8) (v := .ref x) Z zin8 hP 0 rfl rfl 5 (by decide) zm179 rfl rfl dX8_undo_14 ?_
    refine lv_aload_n hx hb dX8_undo_17 rfl (lv_at hl 0 rfl) ?_
    refine z_get (ci := 8) (v := .ref a) Z zin8 hP 0 rfl rfl 2 (by decide) zm176 rfl rfl dX8_undo_18 ?_
    refine z_callVv (As := [.ref a]) (rest := []) (ci := 0) (k0 := 0) Z hP hD hS hl.1 (zc_X0_takeBack l D cI cZ x xs cn nx sf a b f (by omega) (by omega) (by omega)) zm415 zm416 zm417 zm34 zm418 ⟨rfl, zd_X0_takeBack⟩ ⟨Nat.le_of_ble_eq_true rfl, Nat.le_of_ble_eq_true rfl⟩ ⟨Nat.zero_le _, Nat.zero_le _⟩ [3, 4, 1, 2] rfl (by decide) rfl rfl rfl (fun _ => rfl) rfl (Nat.le_of_ble_eq_true rfl) rfl dX8_undo_21 (fun u H locs h_5 hP hD hS => ?_)
    have hP : va_P D vwCl [(o, .inr (8, [.ref tx, .ref r, .ref a, .ref r2, .ref a2, .ref x, .ref y, .ref z, .ref v, .ref h, .long sd])), (a, .inr (6, [.ref b])), (b, .inl (cI, 36, .inl (va_cpy sf f (zpx nx * 36) 0 36))), (x, .inr (0, [.ref xs, .int (nI (cn - 1)), .int (nI (zpx nx))])), (xs, .inl (cI, 432, .inl sf))] H := hP
    have hD : va_D A [(o, .inr (8, [.ref tx, .ref r, .ref a, .ref r2, .ref a2, .ref x, .ref y, .ref z, .ref v, .ref h, .long sd])), (a, .inr (6, [.ref b])), (b, .inl (cI, 36, .inl (va_cpy sf f (zpx nx * 36) 0 36))), (x, .inr (0, [.ref xs, .int (nI (cn - 1)), .int (nI (zpx nx))])), (xs, .inl (cI, 432, .inl sf))] := hD
    refine lv_aload_n hx hb dX8_undo_24 rfl (lv_at hl 0 rfl) ?_
    refine z_get (ci := 8) (v := .ref x) Z zin8 hP 0 rfl rfl 5 (by decide) zm179 rfl rfl dX8_undo_25 ?_
    refine z_callVi (As := []) (rest := []) (ci := 0) (k0 := 0) Z hP hD hS hl.1 (zc_X0_count l D cI cZ x xs (cn - 1) (zpx nx) ) zm317 zm318 zm319 zm34 zm320 ⟨rfl, zd_X0_count⟩ ⟨Nat.le_of_ble_eq_true rfl, Nat.le_of_ble_eq_true rfl⟩ ⟨Nat.zero_le _, Nat.zero_le _⟩ [3] rfl (by decide) rfl rfl rfl (fun _ => rfl) rfl (Nat.le_of_ble_eq_true rfl) rfl dX8_undo_28 (fun r_6 u H locs h_7 hP hD hS => ?_)
    have hP : va_P D vwCl [(o, .inr (8, [.ref tx, .ref r, .ref a, .ref r2, .ref a2, .ref x, .ref y, .ref z, .ref v, .ref h, .long sd])), (a, .inr (6, [.ref b])), (b, .inl (cI, 36, .inl (va_cpy sf f (zpx nx * 36) 0 36))), (x, .inr (0, [.ref xs, .int (nI (cn - 1)), .int (nI (zpx nx))])), (xs, .inl (cI, 432, .inl sf))] H := hP
    have hD : va_D A [(o, .inr (8, [.ref tx, .ref r, .ref a, .ref r2, .ref a2, .ref x, .ref y, .ref z, .ref v, .ref h, .long sd])), (a, .inr (6, [.ref b])), (b, .inl (cI, 36, .inl (va_cpy sf f (zpx nx * 36) 0 36))), (x, .inr (0, [.ref xs, .int (nI (cn - 1)), .int (nI (zpx nx))])), (xs, .inl (cI, 432, .inl sf))] := hD
    have h_7 : r_6 = nI (cn - 1) := h_7
    subst h_7
    have e_8 : va_cpy sf f (zpx nx * 36) 0 36 = (if cn = 0 then f else va_cpy sf f (zpx nx * 36) 0 36) := by first | rw [if_pos (by assumption)] | rw [if_neg (by assumption)] | exact congrArg nI (by omega)
    have hP : va_P D vwCl [(o, .inr (8, [.ref tx, .ref r, .ref a, .ref r2, .ref a2, .ref x, .ref y, .ref z, .ref v, .ref h, .long sd])), (a, .inr (6, [.ref b])), (b, .inl (cI, 36, .inl (if cn = 0 then f else va_cpy sf f (zpx nx * 36) 0 36))), (x, .inr (0, [.ref xs, .int (nI (cn - 1)), .int (nI (zpx nx))])), (xs, .inl (cI, 432, .inl sf))] H := Eq.subst (motive := fun zz_ => va_P D vwCl [(o, .inr (8, [.ref tx, .ref r, .ref a, .ref r2, .ref a2, .ref x, .ref y, .ref z, .ref v, .ref h, .long sd])), (a, .inr (6, [.ref b])), (b, .inl (cI, 36, .inl zz_)), (x, .inr (0, [.ref xs, .int (nI (cn - 1)), .int (nI (zpx nx))])), (xs, .inl (cI, 432, .inl sf))] H) e_8 hP
    have e_9 : nI (zpx nx) = nI (if cn = 0 then nx else zpx nx) := by first | rw [if_pos (by assumption)] | rw [if_neg (by assumption)] | exact congrArg nI (by omega)
    have hP : va_P D vwCl [(o, .inr (8, [.ref tx, .ref r, .ref a, .ref r2, .ref a2, .ref x, .ref y, .ref z, .ref v, .ref h, .long sd])), (a, .inr (6, [.ref b])), (b, .inl (cI, 36, .inl (if cn = 0 then f else va_cpy sf f (zpx nx * 36) 0 36))), (x, .inr (0, [.ref xs, .int (nI (cn - 1)), .int (nI (if cn = 0 then nx else zpx nx))])), (xs, .inl (cI, 432, .inl sf))] H := Eq.subst (motive := fun zz_ => va_P D vwCl [(o, .inr (8, [.ref tx, .ref r, .ref a, .ref r2, .ref a2, .ref x, .ref y, .ref z, .ref v, .ref h, .long sd])), (a, .inr (6, [.ref b])), (b, .inl (cI, 36, .inl (if cn = 0 then f else va_cpy sf f (zpx nx * 36) 0 36))), (x, .inr (0, [.ref xs, .int (nI (cn - 1)), .int zz_])), (xs, .inl (cI, 432, .inl sf))] H) e_9 hP
    have hD : va_D A [(o, .inr (8, [.ref tx, .ref r, .ref a, .ref r2, .ref a2, .ref x, .ref y, .ref z, .ref v, .ref h, .long sd])), (a, .inr (6, [.ref b])), (b, .inl (cI, 36, .inl (if cn = 0 then f else va_cpy sf f (zpx nx * 36) 0 36))), (x, .inr (0, [.ref xs, .int (nI (cn - 1)), .int (nI (if cn = 0 then nx else zpx nx))])), (xs, .inl (cI, 432, .inl sf))] := zD_of hD rfl
    exact z_iret Z () (by first | rw [if_pos (by assumption)] | rw [if_neg (by assumption)] | exact congrArg nI (by omega)) hP hS dX8_undo_31
  · have c_3 := zeq (i := cn) (j := 0) (by omega) (by decide) c_3
    refine lv_bipush (v := -3) hx hb dX8_undo_10 (by decide) ?_
    have e_10 : f = (if cn = 0 then f else va_cpy sf f (zpx nx * 36) 0 36) := by first | rw [if_pos (by assumption)] | rw [if_neg (by assumption)] | exact congrArg nI (by omega)
    have hP : va_P D vwCl [(o, .inr (8, [.ref tx, .ref r, .ref a, .ref r2, .ref a2, .ref x, .ref y, .ref z, .ref v, .ref h, .long sd])), (a, .inr (6, [.ref b])), (b, .inl (cI, 36, .inl (if cn = 0 then f else va_cpy sf f (zpx nx * 36) 0 36))), (x, .inr (0, [.ref xs, .int (nI cn), .int (nI nx)])), (xs, .inl (cI, 432, .inl sf))] H := Eq.subst (motive := fun zz_ => va_P D vwCl [(o, .inr (8, [.ref tx, .ref r, .ref a, .ref r2, .ref a2, .ref x, .ref y, .ref z, .ref v, .ref h, .long sd])), (a, .inr (6, [.ref b])), (b, .inl (cI, 36, .inl zz_)), (x, .inr (0, [.ref xs, .int (nI cn), .int (nI nx)])), (xs, .inl (cI, 432, .inl sf))] H) e_10 hP
    have e_11 : nI cn = nI (cn - 1) := by first | rw [if_pos (by assumption)] | rw [if_neg (by assumption)] | exact congrArg nI (by omega)
    have hP : va_P D vwCl [(o, .inr (8, [.ref tx, .ref r, .ref a, .ref r2, .ref a2, .ref x, .ref y, .ref z, .ref v, .ref h, .long sd])), (a, .inr (6, [.ref b])), (b, .inl (cI, 36, .inl (if cn = 0 then f else va_cpy sf f (zpx nx * 36) 0 36))), (x, .inr (0, [.ref xs, .int (nI (cn - 1)), .int (nI nx)])), (xs, .inl (cI, 432, .inl sf))] H := Eq.subst (motive := fun zz_ => va_P D vwCl [(o, .inr (8, [.ref tx, .ref r, .ref a, .ref r2, .ref a2, .ref x, .ref y, .ref z, .ref v, .ref h, .long sd])), (a, .inr (6, [.ref b])), (b, .inl (cI, 36, .inl (if cn = 0 then f else va_cpy sf f (zpx nx * 36) 0 36))), (x, .inr (0, [.ref xs, .int zz_, .int (nI nx)])), (xs, .inl (cI, 432, .inl sf))] H) e_11 hP
    have e_12 : nI nx = nI (if cn = 0 then nx else zpx nx) := by first | rw [if_pos (by assumption)] | rw [if_neg (by assumption)] | exact congrArg nI (by omega)
    have hP : va_P D vwCl [(o, .inr (8, [.ref tx, .ref r, .ref a, .ref r2, .ref a2, .ref x, .ref y, .ref z, .ref v, .ref h, .long sd])), (a, .inr (6, [.ref b])), (b, .inl (cI, 36, .inl (if cn = 0 then f else va_cpy sf f (zpx nx * 36) 0 36))), (x, .inr (0, [.ref xs, .int (nI (cn - 1)), .int (nI (if cn = 0 then nx else zpx nx))])), (xs, .inl (cI, 432, .inl sf))] H := Eq.subst (motive := fun zz_ => va_P D vwCl [(o, .inr (8, [.ref tx, .ref r, .ref a, .ref r2, .ref a2, .ref x, .ref y, .ref z, .ref v, .ref h, .long sd])), (a, .inr (6, [.ref b])), (b, .inl (cI, 36, .inl (if cn = 0 then f else va_cpy sf f (zpx nx * 36) 0 36))), (x, .inr (0, [.ref xs, .int (nI (cn - 1)), .int zz_])), (xs, .inl (cI, 432, .inl sf))] H) e_12 hP
    have hD : va_D A [(o, .inr (8, [.ref tx, .ref r, .ref a, .ref r2, .ref a2, .ref x, .ref y, .ref z, .ref v, .ref h, .long sd])), (a, .inr (6, [.ref b])), (b, .inl (cI, 36, .inl (if cn = 0 then f else va_cpy sf f (zpx nx * 36) 0 36))), (x, .inr (0, [.ref xs, .int (nI (cn - 1)), .int (nI (if cn = 0 then nx else zpx nx))])), (xs, .inl (cI, 432, .inl sf))] := zD_of hD rfl
    exact z_iret Z () (by first | rw [if_pos (by assumption)] | rw [if_neg (by assumption)] | exact congrArg nI (by omega)) hP hS dX8_undo_12

theorem dX8_tax_0 : decode cX8_tax 0 = .ok (.aload_n 0, 1) := by decide +kernel
theorem dX8_tax_1 : decode cX8_tax 1 = .ok (.getfield 19, 3) := by decide +kernel
theorem dX8_tax_4 : decode cX8_tax 4 = .ok (.iload_n 1, 1) := by decide +kernel
theorem dX8_tax_5 : decode cX8_tax 5 = .ok (.invokevirtual 126, 3) := by decide +kernel
theorem dX8_tax_8 : decode cX8_tax 8 = .ok (.ifCond .ne 5, 3) := by decide +kernel
theorem dX8_tax_11 : decode cX8_tax 11 = .ok (.iconst (-1), 1) := by decide +kernel
theorem dX8_tax_12 : decode cX8_tax 12 = .ok (.ireturn, 1) := by decide +kernel
theorem dX8_tax_13 : decode cX8_tax 13 = .ok (.iload_n 2, 1) := by decide +kernel
theorem dX8_tax_14 : decode cX8_tax 14 = .ok (.invokestatic 130, 3) := by decide +kernel
theorem dX8_tax_17 : decode cX8_tax 17 = .ok (.ifCond .ne 6, 3) := by decide +kernel
theorem dX8_tax_20 : decode cX8_tax 20 = .ok (.bipush (-2), 2) := by decide +kernel
theorem dX8_tax_22 : decode cX8_tax 22 = .ok (.ireturn, 1) := by decide +kernel
theorem dX8_tax_23 : decode cX8_tax 23 = .ok (.aload_n 0, 1) := by decide +kernel
theorem dX8_tax_24 : decode cX8_tax 24 = .ok (.getfield 19, 3) := by decide +kernel
theorem dX8_tax_27 : decode cX8_tax 27 = .ok (.aload_n 0, 1) := by decide +kernel
theorem dX8_tax_28 : decode cX8_tax 28 = .ok (.getfield 26, 3) := by decide +kernel
theorem dX8_tax_31 : decode cX8_tax 31 = .ok (.iload_n 1, 1) := by decide +kernel
theorem dX8_tax_32 : decode cX8_tax 32 = .ok (.iload_n 2, 1) := by decide +kernel
theorem dX8_tax_33 : decode cX8_tax 33 = .ok (.invokevirtual 182, 3) := by decide +kernel
theorem dX8_tax_36 : decode cX8_tax 36 = .ok (.ireturn, 1) := by decide +kernel
theorem zd_X8_tax : yX8_tax.cls ≠ "java/lang/invoke/MethodHandle" ∧ yX8_tax.cls ≠ "java/lang/invoke/VarHandle" ∧ (parseMethodDescriptor yX8_tax.desc).map (fun d => d.parameters.length) = some 2 := by decide +kernel
set_option maxHeartbeats 4000000 in
set_option maxRecDepth 100000 in
theorem zc_X8_tax (l : Launch) (D : va_G) (cI cZ : ClassId) (o : Nat) (tx : Nat) (r : Nat) (a : Nat) (r2 : Nat) (a2 : Nat) (x : Nat) (y : Nat) (z : Nat) (v : Nat) (h : Nat) (sd : Int64) (ro : Nat) (rn : Nat) (rr : Nat) (rt : Int32) (fr : Int32) (pr : Int32) (n : Nat) (m : Nat) (b : Nat) (f : Nat → Int32) (x1 : Int32) (x2 : Int32) (hn : n ≤ 5) : zI l yX8_tax cX8_tax 3 .int 3 61 D cI cZ [.ref o, .int x1, .int x2] [(o, .inr (8, [.ref tx, .ref r, .ref a, .ref r2, .ref a2, .ref x, .ref y, .ref z, .ref v, .ref h, .long sd])), (r, .inr (3, [.ref ro, .ref rn, .ref rr, .int rt, .int fr, .int pr, .int (nI n), .int (nI m)])), (a, .inr (6, [.ref b])), (b, .inl (cI, 36, .inl f))] (fun (r : Int32) (u : Unit) => r = zPa n x1 (fun p => zKa x2 (fun k => ztax f rt fr p k) (-2)) (-1)) (fun (u : Unit) => [(o, .inr (8, [.ref tx, .ref r, .ref a, .ref r2, .ref a2, .ref x, .ref y, .ref z, .ref v, .ref h, .long sd])), (r, .inr (3, [.ref ro, .ref rn, .ref rr, .int rt, .int fr, .int pr, .int (nI n), .int (nI m)])), (a, .inr (6, [.ref b])), (b, .inl (cI, 36, .inl f))]) := by
  refine zI_of (by decide) (Nat.le_of_ble_eq_true rfl) ?_
  intro pP eE sS mM aA bB mT cC A ls Z hP hD hS hl
  have hx := Z.1
  have hb := Z.2.1
  have hown := Z.2.2.2.2.2.1
  have hts := Z.2.2.2.2.1
  have Z : zAt pP sS mM aA mT cC D cI cZ A "SurpriseTax" cX8_tax 3 (some .int) := Z
  have hl : lv_has ls 3 [(0, .ref o), (1, .int x1), (2, .int x2)] := hl
  obtain ⟨H, hH⟩ : ∃ H, H = sS.heap := ⟨_, rfl⟩
  have hP : va_P D vwCl [(o, .inr (8, [.ref tx, .ref r, .ref a, .ref r2, .ref a2, .ref x, .ref y, .ref z, .ref v, .ref h, .long sd])), (r, .inr (3, [.ref ro, .ref rn, .ref rr, .int rt, .int fr, .int pr, .int (nI n), .int (nI m)])), (a, .inr (6, [.ref b])), (b, .inl (cI, 36, .inl f))] H := by rw [hH]; exact hP
  have hS : va_S A sS.heap H [] := by rw [hH]; exact hS
  rw [← hH]
  clear hH
  obtain ⟨locs, hlo⟩ : ∃ q : List Loc, q = [] := ⟨_, rfl⟩
  rw [← hlo] at hS ⊢
  clear hlo
  refine lv_aload_n hx hb dX8_tax_0 rfl (lv_at hl 0 rfl) ?_
  refine z_get (ci := 8) (v := .ref r) Z zin8 hP 0 rfl rfl 1 (by decide) zm175 rfl rfl dX8_tax_1 ?_
  refine lv_iload_n hx hb dX8_tax_4 rfl (lv_at hl 1 rfl) ?_
  refine z_callVi (As := [.int x1]) (rest := []) (ci := 3) (k0 := 0) Z hP hD hS hl.1 (zc_X3_has l D cI cZ r ro rn rr rt fr pr n m x1 ) zm329 zm270 zm271 zm32 zm272 ⟨rfl, zd_X3_has⟩ ⟨Nat.le_of_ble_eq_true rfl, Nat.le_of_ble_eq_true rfl⟩ ⟨Nat.zero_le _, Nat.zero_le _⟩ [1] rfl (by decide) rfl rfl rfl (fun _ => rfl) rfl (Nat.le_of_ble_eq_true rfl) rfl dX8_tax_5 (fun r_1 u H locs h_2 hP hD hS => ?_)
  have hP : va_P D vwCl [(o, .inr (8, [.ref tx, .ref r, .ref a, .ref r2, .ref a2, .ref x, .ref y, .ref z, .ref v, .ref h, .long sd])), (r, .inr (3, [.ref ro, .ref rn, .ref rr, .int rt, .int fr, .int pr, .int (nI n), .int (nI m)])), (a, .inr (6, [.ref b])), (b, .inl (cI, 36, .inl f))] H := hP
  have hD : va_D A [(o, .inr (8, [.ref tx, .ref r, .ref a, .ref r2, .ref a2, .ref x, .ref y, .ref z, .ref v, .ref h, .long sd])), (r, .inr (3, [.ref ro, .ref rn, .ref rr, .int rt, .int fr, .int pr, .int (nI n), .int (nI m)])), (a, .inr (6, [.ref b])), (b, .inl (cI, 36, .inl f))] := hD
  have h_2 : r_1 = if zhas n x1 then 1 else 0 := h_2
  subst h_2
  refine lv_if_ne (tgt := 13) hx hb dX8_tax_8 (by decide) (fun c_3 => ?_) (fun c_3 => ?_)
  · have c_3 := zb1 c_3
    obtain ⟨p, hp, rfl⟩ := zhas_of (by omega) c_3
    refine lv_iload_n hx hb dX8_tax_13 rfl (lv_at hl 2 rfl) ?_
    refine z_callSi (As := [.int x2]) (rest := []) Z hP hD hS hl.1 (zc_X8_isKind l D cI cZ x2 ) zm330 zm331 zm30 zm332 zd_X8_isKind ⟨Nat.le_of_ble_eq_true rfl, Nat.le_of_ble_eq_true rfl⟩ ⟨Nat.zero_le _, Nat.zero_le _⟩ [] rfl (by decide) (fun _ => rfl) rfl (Nat.le_of_ble_eq_true rfl) rfl dX8_tax_14 (fun r_4 u H locs h_5 hP hD hS => ?_)
    have hP : va_P D vwCl [(o, .inr (8, [.ref tx, .ref r, .ref a, .ref r2, .ref a2, .ref x, .ref y, .ref z, .ref v, .ref h, .long sd])), (r, .inr (3, [.ref ro, .ref rn, .ref rr, .int rt, .int fr, .int pr, .int (nI n), .int (nI m)])), (a, .inr (6, [.ref b])), (b, .inl (cI, 36, .inl f))] H := hP
    have hD : va_D A [(o, .inr (8, [.ref tx, .ref r, .ref a, .ref r2, .ref a2, .ref x, .ref y, .ref z, .ref v, .ref h, .long sd])), (r, .inr (3, [.ref ro, .ref rn, .ref rr, .int rt, .int fr, .int pr, .int (nI n), .int (nI m)])), (a, .inr (6, [.ref b])), (b, .inl (cI, 36, .inl f))] := hD
    have h_5 : r_4 = if zkind x2 then 1 else 0 := h_5
    subst h_5
    refine lv_if_ne (tgt := 23) hx hb dX8_tax_17 (by decide) (fun c_6 => ?_) (fun c_6 => ?_)
    · have c_6 := zb1 c_6
      obtain ⟨k, hk, rfl⟩ := zkind_of c_6
      refine lv_aload_n hx hb dX8_tax_23 rfl (lv_at hl 0 rfl) ?_
      refine z_get (ci := 8) (v := .ref r) Z zin8 hP 0 rfl rfl 1 (by decide) zm175 rfl rfl dX8_tax_24 ?_
      refine lv_aload_n hx hb dX8_tax_27 rfl (lv_at hl 0 rfl) ?_
      refine z_get (ci := 8) (v := .ref a) Z zin8 hP 0 rfl rfl 2 (by decide) zm176 rfl rfl dX8_tax_28 ?_
      refine lv_iload_n hx hb dX8_tax_31 rfl (lv_at hl 1 rfl) ?_
      refine lv_iload_n hx hb dX8_tax_32 rfl (lv_at hl 2 rfl) ?_
      refine z_callVi (As := [.ref a, .int (nI p), .int (nI k)]) (rest := []) (ci := 3) (k0 := 0) Z hP hD hS hl.1 (zc_X3_taxOf l D cI cZ r ro rn rr rt fr pr n m a b f p k (by omega) (by omega)) zm427 zm392 zm393 zm32 zm394 ⟨rfl, zd_X3_taxOf⟩ ⟨Nat.le_of_ble_eq_true rfl, Nat.le_of_ble_eq_true rfl⟩ ⟨Nat.zero_le _, Nat.zero_le _⟩ [1, 2, 3] rfl (by decide) rfl rfl rfl (fun _ => rfl) rfl (Nat.le_of_ble_eq_true rfl) rfl dX8_tax_33 (fun r_7 u H locs h_8 hP hD hS => ?_)
      have hP : va_P D vwCl [(o, .inr (8, [.ref tx, .ref r, .ref a, .ref r2, .ref a2, .ref x, .ref y, .ref z, .ref v, .ref h, .long sd])), (r, .inr (3, [.ref ro, .ref rn, .ref rr, .int rt, .int fr, .int pr, .int (nI n), .int (nI m)])), (a, .inr (6, [.ref b])), (b, .inl (cI, 36, .inl f))] H := hP
      have hD : va_D A [(o, .inr (8, [.ref tx, .ref r, .ref a, .ref r2, .ref a2, .ref x, .ref y, .ref z, .ref v, .ref h, .long sd])), (r, .inr (3, [.ref ro, .ref rn, .ref rr, .int rt, .int fr, .int pr, .int (nI n), .int (nI m)])), (a, .inr (6, [.ref b])), (b, .inl (cI, 36, .inl f))] := hD
      have h_8 : r_7 = ztax f rt fr p k := h_8
      subst h_8
      exact z_iret Z () (by first | rw [zPa_n (by assumption)] | rw [zPa_y hp hn, zKa_n (by assumption)] | rw [zPa_y hp hn, zKa_y hk, if_pos (by assumption)] | rw [zPa_y hp hn, zKa_y hk, if_neg (by assumption)] | rw [zPa_y hp hn, zKa_y hk] | rw [zPa_y hp hn, if_pos (by assumption)] | rw [zPa_y hp hn, if_neg (by assumption)] | rw [zPa_y hp hn] | rfl) hP hS dX8_tax_36
    · have c_6 := zb0 c_6
      refine lv_bipush (v := -2) hx hb dX8_tax_20 (by decide) ?_
      exact z_iret Z () (by first | rw [zPa_n (by assumption)] | rw [zPa_y hp hn, zKa_n (by assumption)] | rw [zPa_y hp hn, zKa_y hk, if_pos (by assumption)] | rw [zPa_y hp hn, zKa_y hk, if_neg (by assumption)] | rw [zPa_y hp hn, zKa_y hk] | rw [zPa_y hp hn, if_pos (by assumption)] | rw [zPa_y hp hn, if_neg (by assumption)] | rw [zPa_y hp hn] | rfl) hP hS dX8_tax_22
  · have c_3 := zb0 c_3
    refine lv_iconst (v := -1) hx hb dX8_tax_11 (by decide) ?_
    exact z_iret Z () (by first | rw [zPa_n (by assumption)] | rw [zPa_y hp hn, zKa_n (by assumption)] | rw [zPa_y hp hn, zKa_y hk, if_pos (by assumption)] | rw [zPa_y hp hn, zKa_y hk, if_neg (by assumption)] | rw [zPa_y hp hn, zKa_y hk] | rw [zPa_y hp hn, if_pos (by assumption)] | rw [zPa_y hp hn, if_neg (by assumption)] | rw [zPa_y hp hn] | rfl) hP hS dX8_tax_12

theorem dX8_mean_0 : decode cX8_mean 0 = .ok (.aload_n 0, 1) := by decide +kernel
theorem dX8_mean_1 : decode cX8_mean 1 = .ok (.getfield 19, 3) := by decide +kernel
theorem dX8_mean_4 : decode cX8_mean 4 = .ok (.iload_n 1, 1) := by decide +kernel
theorem dX8_mean_5 : decode cX8_mean 5 = .ok (.invokevirtual 126, 3) := by decide +kernel
theorem dX8_mean_8 : decode cX8_mean 8 = .ok (.ifCond .ne 5, 3) := by decide +kernel
theorem dX8_mean_11 : decode cX8_mean 11 = .ok (.iconst (-1), 1) := by decide +kernel
theorem dX8_mean_12 : decode cX8_mean 12 = .ok (.ireturn, 1) := by decide +kernel
theorem dX8_mean_13 : decode cX8_mean 13 = .ok (.aload_n 0, 1) := by decide +kernel
theorem dX8_mean_14 : decode cX8_mean 14 = .ok (.getfield 19, 3) := by decide +kernel
theorem dX8_mean_17 : decode cX8_mean 17 = .ok (.aload_n 0, 1) := by decide +kernel
theorem dX8_mean_18 : decode cX8_mean 18 = .ok (.getfield 26, 3) := by decide +kernel
theorem dX8_mean_21 : decode cX8_mean 21 = .ok (.iload_n 1, 1) := by decide +kernel
theorem dX8_mean_22 : decode cX8_mean 22 = .ok (.invokevirtual 186, 3) := by decide +kernel
theorem dX8_mean_25 : decode cX8_mean 25 = .ok (.bipush 10, 2) := by decide +kernel
theorem dX8_mean_27 : decode cX8_mean 27 = .ok (.iload_n 2, 1) := by decide +kernel
theorem dX8_mean_28 : decode cX8_mean 28 = .ok (.invokestatic 189, 3) := by decide +kernel
theorem dX8_mean_31 : decode cX8_mean 31 = .ok (.ireturn, 1) := by decide +kernel
theorem zd_X8_mean : yX8_mean.cls ≠ "java/lang/invoke/MethodHandle" ∧ yX8_mean.cls ≠ "java/lang/invoke/VarHandle" ∧ (parseMethodDescriptor yX8_mean.desc).map (fun d => d.parameters.length) = some 2 := by decide +kernel
set_option maxHeartbeats 4000000 in
set_option maxRecDepth 100000 in
theorem zc_X8_mean (l : Launch) (D : va_G) (cI cZ : ClassId) (o : Nat) (tx : Nat) (r : Nat) (a : Nat) (r2 : Nat) (a2 : Nat) (x : Nat) (y : Nat) (z : Nat) (v : Nat) (h : Nat) (sd : Int64) (ro : Nat) (rn : Nat) (rr : Nat) (rt : Int32) (fr : Int32) (pr : Int32) (n : Nat) (m : Nat) (od : Nat → Int32) (b : Nat) (f : Nat → Int32) (x1 : Int32) (u1 : Int32) (hn : n ≤ 5) (hmt : ∀ p, p < n → ∃ q, zmt f od rt fr p 4 = nI q ∧ q < 2147483648) : zI l yX8_mean cX8_mean 3 .int 4 85 D cI cZ [.ref o, .int x1, .int u1] [(o, .inr (8, [.ref tx, .ref r, .ref a, .ref r2, .ref a2, .ref x, .ref y, .ref z, .ref v, .ref h, .long sd])), (r, .inr (3, [.ref ro, .ref rn, .ref rr, .int rt, .int fr, .int pr, .int (nI n), .int (nI m)])), (ro, .inl (cI, 4, .inl od)), (a, .inr (6, [.ref b])), (b, .inl (cI, 36, .inl f))] (fun (r : Int32) (u : Unit) => r = zPa n x1 (fun p => zfrac u1 (zmt f od rt fr p 4).toNatClampNeg 10) (-1)) (fun (u : Unit) => [(o, .inr (8, [.ref tx, .ref r, .ref a, .ref r2, .ref a2, .ref x, .ref y, .ref z, .ref v, .ref h, .long sd])), (r, .inr (3, [.ref ro, .ref rn, .ref rr, .int rt, .int fr, .int pr, .int (nI n), .int (nI m)])), (ro, .inl (cI, 4, .inl od)), (a, .inr (6, [.ref b])), (b, .inl (cI, 36, .inl f))]) := by
  refine zI_of (by decide) (Nat.le_of_ble_eq_true rfl) ?_
  intro pP eE sS mM aA bB mT cC A ls Z hP hD hS hl
  have hx := Z.1
  have hb := Z.2.1
  have hown := Z.2.2.2.2.2.1
  have hts := Z.2.2.2.2.1
  have Z : zAt pP sS mM aA mT cC D cI cZ A "SurpriseTax" cX8_mean 3 (some .int) := Z
  have hl : lv_has ls 3 [(0, .ref o), (1, .int x1), (2, .int u1)] := hl
  obtain ⟨H, hH⟩ : ∃ H, H = sS.heap := ⟨_, rfl⟩
  have hP : va_P D vwCl [(o, .inr (8, [.ref tx, .ref r, .ref a, .ref r2, .ref a2, .ref x, .ref y, .ref z, .ref v, .ref h, .long sd])), (r, .inr (3, [.ref ro, .ref rn, .ref rr, .int rt, .int fr, .int pr, .int (nI n), .int (nI m)])), (ro, .inl (cI, 4, .inl od)), (a, .inr (6, [.ref b])), (b, .inl (cI, 36, .inl f))] H := by rw [hH]; exact hP
  have hS : va_S A sS.heap H [] := by rw [hH]; exact hS
  rw [← hH]
  clear hH
  obtain ⟨locs, hlo⟩ : ∃ q : List Loc, q = [] := ⟨_, rfl⟩
  rw [← hlo] at hS ⊢
  clear hlo
  refine lv_aload_n hx hb dX8_mean_0 rfl (lv_at hl 0 rfl) ?_
  refine z_get (ci := 8) (v := .ref r) Z zin8 hP 0 rfl rfl 1 (by decide) zm175 rfl rfl dX8_mean_1 ?_
  refine lv_iload_n hx hb dX8_mean_4 rfl (lv_at hl 1 rfl) ?_
  refine z_callVi (As := [.int x1]) (rest := []) (ci := 3) (k0 := 0) Z hP hD hS hl.1 (zc_X3_has l D cI cZ r ro rn rr rt fr pr n m x1 ) zm329 zm270 zm271 zm32 zm272 ⟨rfl, zd_X3_has⟩ ⟨Nat.le_of_ble_eq_true rfl, Nat.le_of_ble_eq_true rfl⟩ ⟨Nat.zero_le _, Nat.zero_le _⟩ [1] rfl (by decide) rfl rfl rfl (fun _ => rfl) rfl (Nat.le_of_ble_eq_true rfl) rfl dX8_mean_5 (fun r_1 u H locs h_2 hP hD hS => ?_)
  have hP : va_P D vwCl [(o, .inr (8, [.ref tx, .ref r, .ref a, .ref r2, .ref a2, .ref x, .ref y, .ref z, .ref v, .ref h, .long sd])), (r, .inr (3, [.ref ro, .ref rn, .ref rr, .int rt, .int fr, .int pr, .int (nI n), .int (nI m)])), (ro, .inl (cI, 4, .inl od)), (a, .inr (6, [.ref b])), (b, .inl (cI, 36, .inl f))] H := hP
  have hD : va_D A [(o, .inr (8, [.ref tx, .ref r, .ref a, .ref r2, .ref a2, .ref x, .ref y, .ref z, .ref v, .ref h, .long sd])), (r, .inr (3, [.ref ro, .ref rn, .ref rr, .int rt, .int fr, .int pr, .int (nI n), .int (nI m)])), (ro, .inl (cI, 4, .inl od)), (a, .inr (6, [.ref b])), (b, .inl (cI, 36, .inl f))] := hD
  have h_2 : r_1 = if zhas n x1 then 1 else 0 := h_2
  subst h_2
  refine lv_if_ne (tgt := 13) hx hb dX8_mean_8 (by decide) (fun c_3 => ?_) (fun c_3 => ?_)
  · have c_3 := zb1 c_3
    obtain ⟨p, hp, rfl⟩ := zhas_of (by omega) c_3
    refine lv_aload_n hx hb dX8_mean_13 rfl (lv_at hl 0 rfl) ?_
    refine z_get (ci := 8) (v := .ref r) Z zin8 hP 0 rfl rfl 1 (by decide) zm175 rfl rfl dX8_mean_14 ?_
    refine lv_aload_n hx hb dX8_mean_17 rfl (lv_at hl 0 rfl) ?_
    refine z_get (ci := 8) (v := .ref a) Z zin8 hP 0 rfl rfl 2 (by decide) zm176 rfl rfl dX8_mean_18 ?_
    refine lv_iload_n hx hb dX8_mean_21 rfl (lv_at hl 1 rfl) ?_
    refine z_callVi (As := [.ref a, .int (nI p)]) (rest := []) (ci := 3) (k0 := 0) Z hP hD hS hl.1 (zc_X3_meanTenfold l D cI cZ r ro rn rr rt fr pr n m od a b f p (by omega)) zm432 zm433 zm434 zm32 zm435 ⟨rfl, zd_X3_meanTenfold⟩ ⟨Nat.le_of_ble_eq_true rfl, Nat.le_of_ble_eq_true rfl⟩ ⟨Nat.zero_le _, Nat.zero_le _⟩ [1, 2, 3, 4] rfl (by decide) rfl rfl rfl (fun _ => rfl) rfl (Nat.le_of_ble_eq_true rfl) rfl dX8_mean_22 (fun r_4 u H locs h_5 hP hD hS => ?_)
    have hP : va_P D vwCl [(o, .inr (8, [.ref tx, .ref r, .ref a, .ref r2, .ref a2, .ref x, .ref y, .ref z, .ref v, .ref h, .long sd])), (r, .inr (3, [.ref ro, .ref rn, .ref rr, .int rt, .int fr, .int pr, .int (nI n), .int (nI m)])), (ro, .inl (cI, 4, .inl od)), (a, .inr (6, [.ref b])), (b, .inl (cI, 36, .inl f))] H := hP
    have hD : va_D A [(o, .inr (8, [.ref tx, .ref r, .ref a, .ref r2, .ref a2, .ref x, .ref y, .ref z, .ref v, .ref h, .long sd])), (r, .inr (3, [.ref ro, .ref rn, .ref rr, .int rt, .int fr, .int pr, .int (nI n), .int (nI m)])), (ro, .inl (cI, 4, .inl od)), (a, .inr (6, [.ref b])), (b, .inl (cI, 36, .inl f))] := hD
    have h_5 : r_4 = zmt f od rt fr p 4 := h_5
    subst h_5
    obtain ⟨q, hq, hq2⟩ := hmt p hp
    refine z_top (y := nI q) (hq) ?_
    refine lv_bipush (v := nI 10) hx hb dX8_mean_25 (by decide) ?_
    refine lv_iload_n hx hb dX8_mean_27 rfl (lv_at hl 2 rfl) ?_
    refine z_callSi (As := [.int (nI q), .int (nI 10), .int u1]) (rest := []) Z hP hD hS hl.1 (zc_X8_inLeastTerms l D cI cZ q 10 u1 (by omega) (by omega) (by omega)) zm436 zm437 zm30 zm438 zd_X8_inLeastTerms ⟨Nat.le_of_ble_eq_true rfl, Nat.le_of_ble_eq_true rfl⟩ ⟨Nat.zero_le _, Nat.zero_le _⟩ [] rfl (by decide) (fun _ => rfl) rfl (Nat.le_of_ble_eq_true rfl) rfl dX8_mean_28 (fun r_6 u H locs h_7 hP hD hS => ?_)
    have hP : va_P D vwCl [(o, .inr (8, [.ref tx, .ref r, .ref a, .ref r2, .ref a2, .ref x, .ref y, .ref z, .ref v, .ref h, .long sd])), (r, .inr (3, [.ref ro, .ref rn, .ref rr, .int rt, .int fr, .int pr, .int (nI n), .int (nI m)])), (ro, .inl (cI, 4, .inl od)), (a, .inr (6, [.ref b])), (b, .inl (cI, 36, .inl f))] H := hP
    have hD : va_D A [(o, .inr (8, [.ref tx, .ref r, .ref a, .ref r2, .ref a2, .ref x, .ref y, .ref z, .ref v, .ref h, .long sd])), (r, .inr (3, [.ref ro, .ref rn, .ref rr, .int rt, .int fr, .int pr, .int (nI n), .int (nI m)])), (ro, .inl (cI, 4, .inl od)), (a, .inr (6, [.ref b])), (b, .inl (cI, 36, .inl f))] := hD
    have h_7 : r_6 = if u1 = 0 then nI (10 / Nat.gcd q 10) else nI (q / Nat.gcd q 10) := h_7
    subst h_7
    exact z_iret Z () (by first | rw [zPa_n (by assumption)] | (rw [zPa_y hp hn, hq, nI_clamp hq2]; rfl)) hP hS dX8_mean_31
  · have c_3 := zb0 c_3
    refine lv_iconst (v := -1) hx hb dX8_mean_11 (by decide) ?_
    exact z_iret Z () (by first | rw [zPa_n (by assumption)] | (rw [zPa_y hp hn, hq, nI_clamp hq2]; rfl)) hP hS dX8_mean_12

theorem dX8_counsel_0 : decode cX8_counsel 0 = .ok (.aload_n 0, 1) := by decide +kernel
theorem dX8_counsel_1 : decode cX8_counsel 1 = .ok (.getfield 19, 3) := by decide +kernel
theorem dX8_counsel_4 : decode cX8_counsel 4 = .ok (.iload_n 1, 1) := by decide +kernel
theorem dX8_counsel_5 : decode cX8_counsel 5 = .ok (.invokevirtual 126, 3) := by decide +kernel
theorem dX8_counsel_8 : decode cX8_counsel 8 = .ok (.ifCond .ne 5, 3) := by decide +kernel
theorem dX8_counsel_11 : decode cX8_counsel 11 = .ok (.iconst (-1), 1) := by decide +kernel
theorem dX8_counsel_12 : decode cX8_counsel 12 = .ok (.ireturn, 1) := by decide +kernel
theorem dX8_counsel_13 : decode cX8_counsel 13 = .ok (.aload_n 0, 1) := by decide +kernel
theorem dX8_counsel_14 : decode cX8_counsel 14 = .ok (.getfield 26, 3) := by decide +kernel
theorem dX8_counsel_17 : decode cX8_counsel 17 = .ok (.iload_n 1, 1) := by decide +kernel
theorem dX8_counsel_18 : decode cX8_counsel 18 = .ok (.invokevirtual 145, 3) := by decide +kernel
theorem dX8_counsel_21 : decode cX8_counsel 21 = .ok (.bipush (-9), 2) := by decide +kernel
theorem dX8_counsel_23 : decode cX8_counsel 23 = .ok (.if_icmp .eq 6, 3) := by decide +kernel
theorem dX8_counsel_26 : decode cX8_counsel 26 = .ok (.bipush (-3), 2) := by decide +kernel
theorem dX8_counsel_28 : decode cX8_counsel 28 = .ok (.ireturn, 1) := by decide +kernel
theorem dX8_counsel_29 : decode cX8_counsel 29 = .ok (.aload_n 0, 1) := by decide +kernel
theorem dX8_counsel_30 : decode cX8_counsel 30 = .ok (.getfield 60, 3) := by decide +kernel
theorem dX8_counsel_33 : decode cX8_counsel 33 = .ok (.aload_n 0, 1) := by decide +kernel
theorem dX8_counsel_34 : decode cX8_counsel 34 = .ok (.getfield 19, 3) := by decide +kernel
theorem dX8_counsel_37 : decode cX8_counsel 37 = .ok (.aload_n 0, 1) := by decide +kernel
theorem dX8_counsel_38 : decode cX8_counsel 38 = .ok (.getfield 26, 3) := by decide +kernel
theorem dX8_counsel_41 : decode cX8_counsel 41 = .ok (.iload_n 1, 1) := by decide +kernel
theorem dX8_counsel_42 : decode cX8_counsel 42 = .ok (.invokevirtual 193, 3) := by decide +kernel
theorem dX8_counsel_45 : decode cX8_counsel 45 = .ok (.ireturn, 1) := by decide +kernel
theorem zd_X8_counsel : yX8_counsel.cls ≠ "java/lang/invoke/MethodHandle" ∧ yX8_counsel.cls ≠ "java/lang/invoke/VarHandle" ∧ (parseMethodDescriptor yX8_counsel.desc).map (fun d => d.parameters.length) = some 1 := by decide +kernel
set_option maxHeartbeats 4000000 in
set_option maxRecDepth 100000 in
theorem zc_X8_counsel (l : Launch) (D : va_G) (cI cZ : ClassId) (o : Nat) (tx : Nat) (r : Nat) (a : Nat) (r2 : Nat) (a2 : Nat) (x : Nat) (y : Nat) (z : Nat) (v : Nat) (h : Nat) (sd : Int64) (ro : Nat) (rn : Nat) (rr : Nat) (rt : Int32) (fr : Int32) (pr : Int32) (n : Nat) (m : Nat) (od : Nat → Int32) (b : Nat) (f : Nat → Int32) (ch : Int32) (tf : Int32) (a3 : Nat) (b3 : Nat) (g3 : Nat → Int32) (x1 : Int32) (hn : n ≤ 5) : zI l yX8_counsel cX8_counsel 2 .int 6 132 D cI cZ [.ref o, .int x1] [(o, .inr (8, [.ref tx, .ref r, .ref a, .ref r2, .ref a2, .ref x, .ref y, .ref z, .ref v, .ref h, .long sd])), (r, .inr (3, [.ref ro, .ref rn, .ref rr, .int rt, .int fr, .int pr, .int (nI n), .int (nI m)])), (ro, .inl (cI, 4, .inl od)), (a, .inr (6, [.ref b])), (b, .inl (cI, 36, .inl f)), (v, .inr (1, [.ref a3, .int ch, .int tf])), (a3, .inr (6, [.ref b3])), (b3, .inl (cI, 36, .inl g3))] (fun (r : Int32) (u : Int32 × Int32 × (Nat → Int32)) => r = zPa n x1 (fun p => if f (25 + p) = -9 then (zchF f od rt fr pr p).1 else -3) (-1)) (fun (u : Int32 × Int32 × (Nat → Int32)) => [(o, .inr (8, [.ref tx, .ref r, .ref a, .ref r2, .ref a2, .ref x, .ref y, .ref z, .ref v, .ref h, .long sd])), (r, .inr (3, [.ref ro, .ref rn, .ref rr, .int rt, .int fr, .int pr, .int (nI n), .int (nI m)])), (ro, .inl (cI, 4, .inl od)), (a, .inr (6, [.ref b])), (b, .inl (cI, 36, .inl f)), (v, .inr (1, [.ref a3, .int u.1, .int u.2.1])), (a3, .inr (6, [.ref b3])), (b3, .inl (cI, 36, .inl u.2.2))]) := by
  refine zI_of (by decide) (Nat.le_of_ble_eq_true rfl) ?_
  intro pP eE sS mM aA bB mT cC A ls Z hP hD hS hl
  have hx := Z.1
  have hb := Z.2.1
  have hown := Z.2.2.2.2.2.1
  have hts := Z.2.2.2.2.1
  have Z : zAt pP sS mM aA mT cC D cI cZ A "SurpriseTax" cX8_counsel 2 (some .int) := Z
  have hl : lv_has ls 2 [(0, .ref o), (1, .int x1)] := hl
  obtain ⟨H, hH⟩ : ∃ H, H = sS.heap := ⟨_, rfl⟩
  have hP : va_P D vwCl [(o, .inr (8, [.ref tx, .ref r, .ref a, .ref r2, .ref a2, .ref x, .ref y, .ref z, .ref v, .ref h, .long sd])), (r, .inr (3, [.ref ro, .ref rn, .ref rr, .int rt, .int fr, .int pr, .int (nI n), .int (nI m)])), (ro, .inl (cI, 4, .inl od)), (a, .inr (6, [.ref b])), (b, .inl (cI, 36, .inl f)), (v, .inr (1, [.ref a3, .int ch, .int tf])), (a3, .inr (6, [.ref b3])), (b3, .inl (cI, 36, .inl g3))] H := by rw [hH]; exact hP
  have hS : va_S A sS.heap H [] := by rw [hH]; exact hS
  rw [← hH]
  clear hH
  obtain ⟨locs, hlo⟩ : ∃ q : List Loc, q = [] := ⟨_, rfl⟩
  rw [← hlo] at hS ⊢
  clear hlo
  refine lv_aload_n hx hb dX8_counsel_0 rfl (lv_at hl 0 rfl) ?_
  refine z_get (ci := 8) (v := .ref r) Z zin8 hP 0 rfl rfl 1 (by decide) zm175 rfl rfl dX8_counsel_1 ?_
  refine lv_iload_n hx hb dX8_counsel_4 rfl (lv_at hl 1 rfl) ?_
  refine z_callVi (As := [.int x1]) (rest := []) (ci := 3) (k0 := 0) Z hP hD hS hl.1 (zc_X3_has l D cI cZ r ro rn rr rt fr pr n m x1 ) zm329 zm270 zm271 zm32 zm272 ⟨rfl, zd_X3_has⟩ ⟨Nat.le_of_ble_eq_true rfl, Nat.le_of_ble_eq_true rfl⟩ ⟨Nat.zero_le _, Nat.zero_le _⟩ [1] rfl (by decide) rfl rfl rfl (fun _ => rfl) rfl (Nat.le_of_ble_eq_true rfl) rfl dX8_counsel_5 (fun r_1 u H locs h_2 hP hD hS => ?_)
  have hP : va_P D vwCl [(o, .inr (8, [.ref tx, .ref r, .ref a, .ref r2, .ref a2, .ref x, .ref y, .ref z, .ref v, .ref h, .long sd])), (r, .inr (3, [.ref ro, .ref rn, .ref rr, .int rt, .int fr, .int pr, .int (nI n), .int (nI m)])), (ro, .inl (cI, 4, .inl od)), (a, .inr (6, [.ref b])), (b, .inl (cI, 36, .inl f)), (v, .inr (1, [.ref a3, .int ch, .int tf])), (a3, .inr (6, [.ref b3])), (b3, .inl (cI, 36, .inl g3))] H := hP
  have hD : va_D A [(o, .inr (8, [.ref tx, .ref r, .ref a, .ref r2, .ref a2, .ref x, .ref y, .ref z, .ref v, .ref h, .long sd])), (r, .inr (3, [.ref ro, .ref rn, .ref rr, .int rt, .int fr, .int pr, .int (nI n), .int (nI m)])), (ro, .inl (cI, 4, .inl od)), (a, .inr (6, [.ref b])), (b, .inl (cI, 36, .inl f)), (v, .inr (1, [.ref a3, .int ch, .int tf])), (a3, .inr (6, [.ref b3])), (b3, .inl (cI, 36, .inl g3))] := hD
  have h_2 : r_1 = if zhas n x1 then 1 else 0 := h_2
  subst h_2
  refine lv_if_ne (tgt := 13) hx hb dX8_counsel_8 (by decide) (fun c_3 => ?_) (fun c_3 => ?_)
  · have c_3 := zb1 c_3
    obtain ⟨p, hp, rfl⟩ := zhas_of (by omega) c_3
    refine lv_aload_n hx hb dX8_counsel_13 rfl (lv_at hl 0 rfl) ?_
    refine z_get (ci := 8) (v := .ref a) Z zin8 hP 0 rfl rfl 2 (by decide) zm176 rfl rfl dX8_counsel_14 ?_
    refine lv_iload_n hx hb dX8_counsel_17 rfl (lv_at hl 1 rfl) ?_
    refine z_callVi (As := [.int (nI p)]) (rest := []) (ci := 6) (k0 := 0) Z hP hD hS hl.1 (zc_X6_declared l D cI cZ a b f p (by omega)) zm339 zm340 zm341 zm33 zm342 ⟨rfl, zd_X6_declared⟩ ⟨Nat.le_of_ble_eq_true rfl, Nat.le_of_ble_eq_true rfl⟩ ⟨Nat.zero_le _, Nat.zero_le _⟩ [3, 4] rfl (by decide) rfl rfl rfl (fun _ => rfl) rfl (Nat.le_of_ble_eq_true rfl) rfl dX8_counsel_18 (fun r_4 u H locs h_5 hP hD hS => ?_)
    have hP : va_P D vwCl [(o, .inr (8, [.ref tx, .ref r, .ref a, .ref r2, .ref a2, .ref x, .ref y, .ref z, .ref v, .ref h, .long sd])), (r, .inr (3, [.ref ro, .ref rn, .ref rr, .int rt, .int fr, .int pr, .int (nI n), .int (nI m)])), (ro, .inl (cI, 4, .inl od)), (a, .inr (6, [.ref b])), (b, .inl (cI, 36, .inl f)), (v, .inr (1, [.ref a3, .int ch, .int tf])), (a3, .inr (6, [.ref b3])), (b3, .inl (cI, 36, .inl g3))] H := hP
    have hD : va_D A [(o, .inr (8, [.ref tx, .ref r, .ref a, .ref r2, .ref a2, .ref x, .ref y, .ref z, .ref v, .ref h, .long sd])), (r, .inr (3, [.ref ro, .ref rn, .ref rr, .int rt, .int fr, .int pr, .int (nI n), .int (nI m)])), (ro, .inl (cI, 4, .inl od)), (a, .inr (6, [.ref b])), (b, .inl (cI, 36, .inl f)), (v, .inr (1, [.ref a3, .int ch, .int tf])), (a3, .inr (6, [.ref b3])), (b3, .inl (cI, 36, .inl g3))] := hD
    have h_5 : r_4 = f (25 + p) := h_5
    subst h_5
    refine lv_bipush (v := -9) hx hb dX8_counsel_21 (by decide) ?_
    refine lv_icmp_eq (tgt := 29) hx hb dX8_counsel_23 (by decide) (fun c_6 => ?_) (fun c_6 => ?_)
    · have c_6 : (f (25 + p)) = (-9) := c_6
      refine lv_aload_n hx hb dX8_counsel_29 rfl (lv_at hl 0 rfl) ?_
      refine z_get (ci := 8) (v := .ref v) Z zin8 hP 0 rfl rfl 8 (by decide) zm182 rfl rfl dX8_counsel_30 ?_
      refine lv_aload_n hx hb dX8_counsel_33 rfl (lv_at hl 0 rfl) ?_
      refine z_get (ci := 8) (v := .ref r) Z zin8 hP 0 rfl rfl 1 (by decide) zm175 rfl rfl dX8_counsel_34 ?_
      refine lv_aload_n hx hb dX8_counsel_37 rfl (lv_at hl 0 rfl) ?_
      refine z_get (ci := 8) (v := .ref a) Z zin8 hP 0 rfl rfl 2 (by decide) zm176 rfl rfl dX8_counsel_38 ?_
      refine lv_iload_n hx hb dX8_counsel_41 rfl (lv_at hl 1 rfl) ?_
      refine z_callVi (As := [.ref r, .ref a, .int (nI p)]) (rest := []) (ci := 1) (k0 := 0) Z hP hD hS hl.1 (zc_X1_bestToDeclare l D cI cZ v ch tf a3 b3 g3 r ro rn rr rt fr pr n m od a b f p (by omega)) zm446 zm447 zm448 zm37 zm449 ⟨rfl, zd_X1_bestToDeclare⟩ ⟨Nat.le_of_ble_eq_true rfl, Nat.le_of_ble_eq_true rfl⟩ ⟨Nat.zero_le _, Nat.zero_le _⟩ [5, 6, 7, 1, 2, 3, 4] rfl (by decide) rfl rfl rfl (fun _ => rfl) rfl (Nat.le_of_ble_eq_true rfl) rfl dX8_counsel_42 (fun r_7 u H locs h_8 hP hD hS => ?_)
      obtain ⟨ch2_9, tf2_10, g2_11⟩ := u
      have hP : va_P D vwCl [(o, .inr (8, [.ref tx, .ref r, .ref a, .ref r2, .ref a2, .ref x, .ref y, .ref z, .ref v, .ref h, .long sd])), (r, .inr (3, [.ref ro, .ref rn, .ref rr, .int rt, .int fr, .int pr, .int (nI n), .int (nI m)])), (ro, .inl (cI, 4, .inl od)), (a, .inr (6, [.ref b])), (b, .inl (cI, 36, .inl f)), (v, .inr (1, [.ref a3, .int ch2_9, .int tf2_10])), (a3, .inr (6, [.ref b3])), (b3, .inl (cI, 36, .inl g2_11))] H := hP
      have hD : va_D A [(o, .inr (8, [.ref tx, .ref r, .ref a, .ref r2, .ref a2, .ref x, .ref y, .ref z, .ref v, .ref h, .long sd])), (r, .inr (3, [.ref ro, .ref rn, .ref rr, .int rt, .int fr, .int pr, .int (nI n), .int (nI m)])), (ro, .inl (cI, 4, .inl od)), (a, .inr (6, [.ref b])), (b, .inl (cI, 36, .inl f)), (v, .inr (1, [.ref a3, .int ch2_9, .int tf2_10])), (a3, .inr (6, [.ref b3])), (b3, .inl (cI, 36, .inl g2_11))] := hD
      have h_8 : r_7 = (zchF f od rt fr pr p).1 := h_8
      subst h_8
      exact z_iret Z (ch2_9, tf2_10, g2_11) (by first | rw [zPa_n (by assumption)] | rw [zPa_y hp hn, zKa_n (by assumption)] | rw [zPa_y hp hn, zKa_y hk, if_pos (by assumption)] | rw [zPa_y hp hn, zKa_y hk, if_neg (by assumption)] | rw [zPa_y hp hn, zKa_y hk] | rw [zPa_y hp hn, if_pos (by assumption)] | rw [zPa_y hp hn, if_neg (by assumption)] | rw [zPa_y hp hn] | rfl) hP hS dX8_counsel_45
    · have c_6 : ¬ ((f (25 + p)) = (-9)) := c_6
      refine lv_bipush (v := -3) hx hb dX8_counsel_26 (by decide) ?_
      exact z_iret Z (ch, tf, g3) (by first | rw [zPa_n (by assumption)] | rw [zPa_y hp hn, zKa_n (by assumption)] | rw [zPa_y hp hn, zKa_y hk, if_pos (by assumption)] | rw [zPa_y hp hn, zKa_y hk, if_neg (by assumption)] | rw [zPa_y hp hn, zKa_y hk] | rw [zPa_y hp hn, if_pos (by assumption)] | rw [zPa_y hp hn, if_neg (by assumption)] | rw [zPa_y hp hn] | rfl) hP hS dX8_counsel_28
  · have c_3 := zb0 c_3
    refine lv_iconst (v := -1) hx hb dX8_counsel_11 (by decide) ?_
    exact z_iret Z (ch, tf, g3) (by first | rw [zPa_n (by assumption)] | rw [zPa_y hp hn, zKa_n (by assumption)] | rw [zPa_y hp hn, zKa_y hk, if_pos (by assumption)] | rw [zPa_y hp hn, zKa_y hk, if_neg (by assumption)] | rw [zPa_y hp hn, zKa_y hk] | rw [zPa_y hp hn, if_pos (by assumption)] | rw [zPa_y hp hn, if_neg (by assumption)] | rw [zPa_y hp hn] | rfl) hP hS dX8_counsel_12

theorem dX8_courier_0 : decode cX8_courier 0 = .ok (.aload_n 0, 1) := by decide +kernel
theorem dX8_courier_1 : decode cX8_courier 1 = .ok (.getfield 19, 3) := by decide +kernel
theorem dX8_courier_4 : decode cX8_courier 4 = .ok (.iload_n 1, 1) := by decide +kernel
theorem dX8_courier_5 : decode cX8_courier 5 = .ok (.invokevirtual 126, 3) := by decide +kernel
theorem dX8_courier_8 : decode cX8_courier 8 = .ok (.ifCond .ne 5, 3) := by decide +kernel
theorem dX8_courier_11 : decode cX8_courier 11 = .ok (.iconst (-1), 1) := by decide +kernel
theorem dX8_courier_12 : decode cX8_courier 12 = .ok (.ireturn, 1) := by decide +kernel
theorem dX8_courier_13 : decode cX8_courier 13 = .ok (.aload_n 0, 1) := by decide +kernel
theorem dX8_courier_14 : decode cX8_courier 14 = .ok (.getfield 26, 3) := by decide +kernel
theorem dX8_courier_17 : decode cX8_courier 17 = .ok (.iload_n 1, 1) := by decide +kernel
theorem dX8_courier_18 : decode cX8_courier 18 = .ok (.invokevirtual 145, 3) := by decide +kernel
theorem dX8_courier_21 : decode cX8_courier 21 = .ok (.bipush (-9), 2) := by decide +kernel
theorem dX8_courier_23 : decode cX8_courier 23 = .ok (.if_icmp .eq 6, 3) := by decide +kernel
theorem dX8_courier_26 : decode cX8_courier 26 = .ok (.bipush (-3), 2) := by decide +kernel
theorem dX8_courier_28 : decode cX8_courier 28 = .ok (.ireturn, 1) := by decide +kernel
theorem dX8_courier_29 : decode cX8_courier 29 = .ok (.aload_n 0, 1) := by decide +kernel
theorem dX8_courier_30 : decode cX8_courier 30 = .ok (.getfield 60, 3) := by decide +kernel
theorem dX8_courier_33 : decode cX8_courier 33 = .ok (.aload_n 0, 1) := by decide +kernel
theorem dX8_courier_34 : decode cX8_courier 34 = .ok (.getfield 19, 3) := by decide +kernel
theorem dX8_courier_37 : decode cX8_courier 37 = .ok (.aload_n 0, 1) := by decide +kernel
theorem dX8_courier_38 : decode cX8_courier 38 = .ok (.getfield 26, 3) := by decide +kernel
theorem dX8_courier_41 : decode cX8_courier 41 = .ok (.iload_n 1, 1) := by decide +kernel
theorem dX8_courier_42 : decode cX8_courier 42 = .ok (.invokevirtual 249, 3) := by decide +kernel
theorem dX8_courier_45 : decode cX8_courier 45 = .ok (.ireturn, 1) := by decide +kernel
theorem zd_X8_courier : yX8_courier.cls ≠ "java/lang/invoke/MethodHandle" ∧ yX8_courier.cls ≠ "java/lang/invoke/VarHandle" ∧ (parseMethodDescriptor yX8_courier.desc).map (fun d => d.parameters.length) = some 1 := by decide +kernel
set_option maxHeartbeats 4000000 in
set_option maxRecDepth 100000 in
theorem zc_X8_courier (l : Launch) (D : va_G) (cI cZ : ClassId) (o : Nat) (tx : Nat) (r : Nat) (a : Nat) (r2 : Nat) (a2 : Nat) (x : Nat) (y : Nat) (z : Nat) (v : Nat) (h : Nat) (sd : Int64) (ro : Nat) (rn : Nat) (rr : Nat) (rt : Int32) (fr : Int32) (pr : Int32) (n : Nat) (m : Nat) (od : Nat → Int32) (b : Nat) (f : Nat → Int32) (ch : Int32) (tf : Int32) (a3 : Nat) (b3 : Nat) (g3 : Nat → Int32) (x1 : Int32) (hn : n ≤ 5) : zI l yX8_courier cX8_courier 2 .int 6 132 D cI cZ [.ref o, .int x1] [(o, .inr (8, [.ref tx, .ref r, .ref a, .ref r2, .ref a2, .ref x, .ref y, .ref z, .ref v, .ref h, .long sd])), (r, .inr (3, [.ref ro, .ref rn, .ref rr, .int rt, .int fr, .int pr, .int (nI n), .int (nI m)])), (ro, .inl (cI, 4, .inl od)), (a, .inr (6, [.ref b])), (b, .inl (cI, 36, .inl f)), (v, .inr (1, [.ref a3, .int ch, .int tf])), (a3, .inr (6, [.ref b3])), (b3, .inl (cI, 36, .inl g3))] (fun (r : Int32) (u : Int32 × Int32 × (Nat → Int32)) => r = zPa n x1 (fun p => if f (25 + p) = -9 then (zchF f od rt fr pr p).2 / 10 else -3) (-1)) (fun (u : Int32 × Int32 × (Nat → Int32)) => [(o, .inr (8, [.ref tx, .ref r, .ref a, .ref r2, .ref a2, .ref x, .ref y, .ref z, .ref v, .ref h, .long sd])), (r, .inr (3, [.ref ro, .ref rn, .ref rr, .int rt, .int fr, .int pr, .int (nI n), .int (nI m)])), (ro, .inl (cI, 4, .inl od)), (a, .inr (6, [.ref b])), (b, .inl (cI, 36, .inl f)), (v, .inr (1, [.ref a3, .int u.1, .int u.2.1])), (a3, .inr (6, [.ref b3])), (b3, .inl (cI, 36, .inl u.2.2))]) := by
  refine zI_of (by decide) (Nat.le_of_ble_eq_true rfl) ?_
  intro pP eE sS mM aA bB mT cC A ls Z hP hD hS hl
  have hx := Z.1
  have hb := Z.2.1
  have hown := Z.2.2.2.2.2.1
  have hts := Z.2.2.2.2.1
  have Z : zAt pP sS mM aA mT cC D cI cZ A "SurpriseTax" cX8_courier 2 (some .int) := Z
  have hl : lv_has ls 2 [(0, .ref o), (1, .int x1)] := hl
  obtain ⟨H, hH⟩ : ∃ H, H = sS.heap := ⟨_, rfl⟩
  have hP : va_P D vwCl [(o, .inr (8, [.ref tx, .ref r, .ref a, .ref r2, .ref a2, .ref x, .ref y, .ref z, .ref v, .ref h, .long sd])), (r, .inr (3, [.ref ro, .ref rn, .ref rr, .int rt, .int fr, .int pr, .int (nI n), .int (nI m)])), (ro, .inl (cI, 4, .inl od)), (a, .inr (6, [.ref b])), (b, .inl (cI, 36, .inl f)), (v, .inr (1, [.ref a3, .int ch, .int tf])), (a3, .inr (6, [.ref b3])), (b3, .inl (cI, 36, .inl g3))] H := by rw [hH]; exact hP
  have hS : va_S A sS.heap H [] := by rw [hH]; exact hS
  rw [← hH]
  clear hH
  obtain ⟨locs, hlo⟩ : ∃ q : List Loc, q = [] := ⟨_, rfl⟩
  rw [← hlo] at hS ⊢
  clear hlo
  refine lv_aload_n hx hb dX8_courier_0 rfl (lv_at hl 0 rfl) ?_
  refine z_get (ci := 8) (v := .ref r) Z zin8 hP 0 rfl rfl 1 (by decide) zm175 rfl rfl dX8_courier_1 ?_
  refine lv_iload_n hx hb dX8_courier_4 rfl (lv_at hl 1 rfl) ?_
  refine z_callVi (As := [.int x1]) (rest := []) (ci := 3) (k0 := 0) Z hP hD hS hl.1 (zc_X3_has l D cI cZ r ro rn rr rt fr pr n m x1 ) zm329 zm270 zm271 zm32 zm272 ⟨rfl, zd_X3_has⟩ ⟨Nat.le_of_ble_eq_true rfl, Nat.le_of_ble_eq_true rfl⟩ ⟨Nat.zero_le _, Nat.zero_le _⟩ [1] rfl (by decide) rfl rfl rfl (fun _ => rfl) rfl (Nat.le_of_ble_eq_true rfl) rfl dX8_courier_5 (fun r_1 u H locs h_2 hP hD hS => ?_)
  have hP : va_P D vwCl [(o, .inr (8, [.ref tx, .ref r, .ref a, .ref r2, .ref a2, .ref x, .ref y, .ref z, .ref v, .ref h, .long sd])), (r, .inr (3, [.ref ro, .ref rn, .ref rr, .int rt, .int fr, .int pr, .int (nI n), .int (nI m)])), (ro, .inl (cI, 4, .inl od)), (a, .inr (6, [.ref b])), (b, .inl (cI, 36, .inl f)), (v, .inr (1, [.ref a3, .int ch, .int tf])), (a3, .inr (6, [.ref b3])), (b3, .inl (cI, 36, .inl g3))] H := hP
  have hD : va_D A [(o, .inr (8, [.ref tx, .ref r, .ref a, .ref r2, .ref a2, .ref x, .ref y, .ref z, .ref v, .ref h, .long sd])), (r, .inr (3, [.ref ro, .ref rn, .ref rr, .int rt, .int fr, .int pr, .int (nI n), .int (nI m)])), (ro, .inl (cI, 4, .inl od)), (a, .inr (6, [.ref b])), (b, .inl (cI, 36, .inl f)), (v, .inr (1, [.ref a3, .int ch, .int tf])), (a3, .inr (6, [.ref b3])), (b3, .inl (cI, 36, .inl g3))] := hD
  have h_2 : r_1 = if zhas n x1 then 1 else 0 := h_2
  subst h_2
  refine lv_if_ne (tgt := 13) hx hb dX8_courier_8 (by decide) (fun c_3 => ?_) (fun c_3 => ?_)
  · have c_3 := zb1 c_3
    obtain ⟨p, hp, rfl⟩ := zhas_of (by omega) c_3
    refine lv_aload_n hx hb dX8_courier_13 rfl (lv_at hl 0 rfl) ?_
    refine z_get (ci := 8) (v := .ref a) Z zin8 hP 0 rfl rfl 2 (by decide) zm176 rfl rfl dX8_courier_14 ?_
    refine lv_iload_n hx hb dX8_courier_17 rfl (lv_at hl 1 rfl) ?_
    refine z_callVi (As := [.int (nI p)]) (rest := []) (ci := 6) (k0 := 0) Z hP hD hS hl.1 (zc_X6_declared l D cI cZ a b f p (by omega)) zm339 zm340 zm341 zm33 zm342 ⟨rfl, zd_X6_declared⟩ ⟨Nat.le_of_ble_eq_true rfl, Nat.le_of_ble_eq_true rfl⟩ ⟨Nat.zero_le _, Nat.zero_le _⟩ [3, 4] rfl (by decide) rfl rfl rfl (fun _ => rfl) rfl (Nat.le_of_ble_eq_true rfl) rfl dX8_courier_18 (fun r_4 u H locs h_5 hP hD hS => ?_)
    have hP : va_P D vwCl [(o, .inr (8, [.ref tx, .ref r, .ref a, .ref r2, .ref a2, .ref x, .ref y, .ref z, .ref v, .ref h, .long sd])), (r, .inr (3, [.ref ro, .ref rn, .ref rr, .int rt, .int fr, .int pr, .int (nI n), .int (nI m)])), (ro, .inl (cI, 4, .inl od)), (a, .inr (6, [.ref b])), (b, .inl (cI, 36, .inl f)), (v, .inr (1, [.ref a3, .int ch, .int tf])), (a3, .inr (6, [.ref b3])), (b3, .inl (cI, 36, .inl g3))] H := hP
    have hD : va_D A [(o, .inr (8, [.ref tx, .ref r, .ref a, .ref r2, .ref a2, .ref x, .ref y, .ref z, .ref v, .ref h, .long sd])), (r, .inr (3, [.ref ro, .ref rn, .ref rr, .int rt, .int fr, .int pr, .int (nI n), .int (nI m)])), (ro, .inl (cI, 4, .inl od)), (a, .inr (6, [.ref b])), (b, .inl (cI, 36, .inl f)), (v, .inr (1, [.ref a3, .int ch, .int tf])), (a3, .inr (6, [.ref b3])), (b3, .inl (cI, 36, .inl g3))] := hD
    have h_5 : r_4 = f (25 + p) := h_5
    subst h_5
    refine lv_bipush (v := -9) hx hb dX8_courier_21 (by decide) ?_
    refine lv_icmp_eq (tgt := 29) hx hb dX8_courier_23 (by decide) (fun c_6 => ?_) (fun c_6 => ?_)
    · have c_6 : (f (25 + p)) = (-9) := c_6
      refine lv_aload_n hx hb dX8_courier_29 rfl (lv_at hl 0 rfl) ?_
      refine z_get (ci := 8) (v := .ref v) Z zin8 hP 0 rfl rfl 8 (by decide) zm182 rfl rfl dX8_courier_30 ?_
      refine lv_aload_n hx hb dX8_courier_33 rfl (lv_at hl 0 rfl) ?_
      refine z_get (ci := 8) (v := .ref r) Z zin8 hP 0 rfl rfl 1 (by decide) zm175 rfl rfl dX8_courier_34 ?_
      refine lv_aload_n hx hb dX8_courier_37 rfl (lv_at hl 0 rfl) ?_
      refine z_get (ci := 8) (v := .ref a) Z zin8 hP 0 rfl rfl 2 (by decide) zm176 rfl rfl dX8_courier_38 ?_
      refine lv_iload_n hx hb dX8_courier_41 rfl (lv_at hl 1 rfl) ?_
      refine z_callVi (As := [.ref r, .ref a, .int (nI p)]) (rest := []) (ci := 1) (k0 := 0) Z hP hD hS hl.1 (zc_X1_worthOfNews l D cI cZ v ch tf a3 b3 g3 r ro rn rr rt fr pr n m od a b f p (by omega)) zm616 zm617 zm618 zm37 zm619 ⟨rfl, zd_X1_worthOfNews⟩ ⟨Nat.le_of_ble_eq_true rfl, Nat.le_of_ble_eq_true rfl⟩ ⟨Nat.zero_le _, Nat.zero_le _⟩ [5, 6, 7, 1, 2, 3, 4] rfl (by decide) rfl rfl rfl (fun _ => rfl) rfl (Nat.le_of_ble_eq_true rfl) rfl dX8_courier_42 (fun r_7 u H locs h_8 hP hD hS => ?_)
      obtain ⟨ch2_9, tf2_10, g2_11⟩ := u
      have hP : va_P D vwCl [(o, .inr (8, [.ref tx, .ref r, .ref a, .ref r2, .ref a2, .ref x, .ref y, .ref z, .ref v, .ref h, .long sd])), (r, .inr (3, [.ref ro, .ref rn, .ref rr, .int rt, .int fr, .int pr, .int (nI n), .int (nI m)])), (ro, .inl (cI, 4, .inl od)), (a, .inr (6, [.ref b])), (b, .inl (cI, 36, .inl f)), (v, .inr (1, [.ref a3, .int ch2_9, .int tf2_10])), (a3, .inr (6, [.ref b3])), (b3, .inl (cI, 36, .inl g2_11))] H := hP
      have hD : va_D A [(o, .inr (8, [.ref tx, .ref r, .ref a, .ref r2, .ref a2, .ref x, .ref y, .ref z, .ref v, .ref h, .long sd])), (r, .inr (3, [.ref ro, .ref rn, .ref rr, .int rt, .int fr, .int pr, .int (nI n), .int (nI m)])), (ro, .inl (cI, 4, .inl od)), (a, .inr (6, [.ref b])), (b, .inl (cI, 36, .inl f)), (v, .inr (1, [.ref a3, .int ch2_9, .int tf2_10])), (a3, .inr (6, [.ref b3])), (b3, .inl (cI, 36, .inl g2_11))] := hD
      have h_8 : r_7 = (zchF f od rt fr pr p).2 / 10 := h_8
      subst h_8
      exact z_iret Z (ch2_9, tf2_10, g2_11) (by first | rw [zPa_n (by assumption)] | rw [zPa_y hp hn, zKa_n (by assumption)] | rw [zPa_y hp hn, zKa_y hk, if_pos (by assumption)] | rw [zPa_y hp hn, zKa_y hk, if_neg (by assumption)] | rw [zPa_y hp hn, zKa_y hk] | rw [zPa_y hp hn, if_pos (by assumption)] | rw [zPa_y hp hn, if_neg (by assumption)] | rw [zPa_y hp hn] | rfl) hP hS dX8_courier_45
    · have c_6 : ¬ ((f (25 + p)) = (-9)) := c_6
      refine lv_bipush (v := -3) hx hb dX8_courier_26 (by decide) ?_
      exact z_iret Z (ch, tf, g3) (by first | rw [zPa_n (by assumption)] | rw [zPa_y hp hn, zKa_n (by assumption)] | rw [zPa_y hp hn, zKa_y hk, if_pos (by assumption)] | rw [zPa_y hp hn, zKa_y hk, if_neg (by assumption)] | rw [zPa_y hp hn, zKa_y hk] | rw [zPa_y hp hn, if_pos (by assumption)] | rw [zPa_y hp hn, if_neg (by assumption)] | rw [zPa_y hp hn] | rfl) hP hS dX8_courier_28
  · have c_3 := zb0 c_3
    refine lv_iconst (v := -1) hx hb dX8_courier_11 (by decide) ?_
    exact z_iret Z (ch, tf, g3) (by first | rw [zPa_n (by assumption)] | rw [zPa_y hp hn, zKa_n (by assumption)] | rw [zPa_y hp hn, zKa_y hk, if_pos (by assumption)] | rw [zPa_y hp hn, zKa_y hk, if_neg (by assumption)] | rw [zPa_y hp hn, zKa_y hk] | rw [zPa_y hp hn, if_pos (by assumption)] | rw [zPa_y hp hn, if_neg (by assumption)] | rw [zPa_y hp hn] | rfl) hP hS dX8_courier_12

theorem dX8_least_0 : decode cX8_least 0 = .ok (.aload_n 0, 1) := by decide +kernel
theorem dX8_least_1 : decode cX8_least 1 = .ok (.getfield 19, 3) := by decide +kernel
theorem dX8_least_4 : decode cX8_least 4 = .ok (.iload_n 1, 1) := by decide +kernel
theorem dX8_least_5 : decode cX8_least 5 = .ok (.invokevirtual 126, 3) := by decide +kernel
theorem dX8_least_8 : decode cX8_least 8 = .ok (.ifCond .ne 5, 3) := by decide +kernel
theorem dX8_least_11 : decode cX8_least 11 = .ok (.iconst (-1), 1) := by decide +kernel
theorem dX8_least_12 : decode cX8_least 12 = .ok (.ireturn, 1) := by decide +kernel
theorem dX8_least_13 : decode cX8_least 13 = .ok (.iload_n 2, 1) := by decide +kernel
theorem dX8_least_14 : decode cX8_least 14 = .ok (.iconst 1, 1) := by decide +kernel
theorem dX8_least_15 : decode cX8_least 15 = .ok (.if_icmp .lt 8, 3) := by decide +kernel
theorem dX8_least_18 : decode cX8_least 18 = .ok (.iload_n 2, 1) := by decide +kernel
theorem dX8_least_19 : decode cX8_least 19 = .ok (.iconst 3, 1) := by decide +kernel
theorem dX8_least_20 : decode cX8_least 20 = .ok (.if_icmp .le 6, 3) := by decide +kernel
theorem dX8_least_23 : decode cX8_least 23 = .ok (.bipush (-2), 2) := by decide +kernel
theorem dX8_least_25 : decode cX8_least 25 = .ok (.ireturn, 1) := by decide +kernel
theorem dX8_least_26 : decode cX8_least 26 = .ok (.aload_n 0, 1) := by decide +kernel
theorem dX8_least_27 : decode cX8_least 27 = .ok (.getfield 60, 3) := by decide +kernel
theorem dX8_least_30 : decode cX8_least 30 = .ok (.aload_n 0, 1) := by decide +kernel
theorem dX8_least_31 : decode cX8_least 31 = .ok (.getfield 19, 3) := by decide +kernel
theorem dX8_least_34 : decode cX8_least 34 = .ok (.aload_n 0, 1) := by decide +kernel
theorem dX8_least_35 : decode cX8_least 35 = .ok (.getfield 26, 3) := by decide +kernel
theorem dX8_least_38 : decode cX8_least 38 = .ok (.iload_n 1, 1) := by decide +kernel
theorem dX8_least_39 : decode cX8_least 39 = .ok (.iload_n 2, 1) := by decide +kernel
theorem dX8_least_40 : decode cX8_least 40 = .ok (.invokevirtual 197, 3) := by decide +kernel
theorem dX8_least_43 : decode cX8_least 43 = .ok (.bipush 10, 2) := by decide +kernel
theorem dX8_least_45 : decode cX8_least 45 = .ok (.iload_n 2, 1) := by decide +kernel
theorem dX8_least_46 : decode cX8_least 46 = .ok (.invokestatic 201, 3) := by decide +kernel
theorem dX8_least_49 : decode cX8_least 49 = .ok (.iload_n 3, 1) := by decide +kernel
theorem dX8_least_50 : decode cX8_least 50 = .ok (.invokestatic 189, 3) := by decide +kernel
theorem dX8_least_53 : decode cX8_least 53 = .ok (.ireturn, 1) := by decide +kernel
theorem zd_X8_least : yX8_least.cls ≠ "java/lang/invoke/MethodHandle" ∧ yX8_least.cls ≠ "java/lang/invoke/VarHandle" ∧ (parseMethodDescriptor yX8_least.desc).map (fun d => d.parameters.length) = some 3 := by decide +kernel
set_option maxHeartbeats 4000000 in
set_option maxRecDepth 100000 in
theorem zc_X8_least (l : Launch) (D : va_G) (cI cZ : ClassId) (o : Nat) (tx : Nat) (r : Nat) (a : Nat) (r2 : Nat) (a2 : Nat) (x : Nat) (y : Nat) (z : Nat) (v : Nat) (h : Nat) (sd : Int64) (ro : Nat) (rn : Nat) (rr : Nat) (rt : Int32) (fr : Int32) (pr : Int32) (n : Nat) (m : Nat) (od : Nat → Int32) (b : Nat) (f : Nat → Int32) (ch : Int32) (tf : Int32) (a3 : Nat) (b3 : Nat) (g3 : Nat → Int32) (x1 : Int32) (x2 : Int32) (u1 : Int32) (hn : n ≤ 5) (hls : ∀ p, p < n → ∀ N, N ≤ 3 → ∃ q, zls f od rt fr pr n p N N = nI q ∧ q < 2147483648) : zI l yX8_least cX8_least 4 .int 6 144 D cI cZ [.ref o, .int x1, .int x2, .int u1] [(o, .inr (8, [.ref tx, .ref r, .ref a, .ref r2, .ref a2, .ref x, .ref y, .ref z, .ref v, .ref h, .long sd])), (r, .inr (3, [.ref ro, .ref rn, .ref rr, .int rt, .int fr, .int pr, .int (nI n), .int (nI m)])), (ro, .inl (cI, 4, .inl od)), (a, .inr (6, [.ref b])), (b, .inl (cI, 36, .inl f)), (v, .inr (1, [.ref a3, .int ch, .int tf])), (a3, .inr (6, [.ref b3])), (b3, .inl (cI, 36, .inl g3))] (fun (r : Int32) (u : Int32 × Int32 × (Nat → Int32)) => r = zPa n x1 (fun p => zRa 1 3 x2 (fun N => zfrac u1 (zls f od rt fr pr n p N N).toNatClampNeg (10 ^ N)) (-2)) (-1)) (fun (u : Int32 × Int32 × (Nat → Int32)) => [(o, .inr (8, [.ref tx, .ref r, .ref a, .ref r2, .ref a2, .ref x, .ref y, .ref z, .ref v, .ref h, .long sd])), (r, .inr (3, [.ref ro, .ref rn, .ref rr, .int rt, .int fr, .int pr, .int (nI n), .int (nI m)])), (ro, .inl (cI, 4, .inl od)), (a, .inr (6, [.ref b])), (b, .inl (cI, 36, .inl f)), (v, .inr (1, [.ref a3, .int u.1, .int u.2.1])), (a3, .inr (6, [.ref b3])), (b3, .inl (cI, 36, .inl u.2.2))]) := by
  refine zI_of (by decide) (Nat.le_of_ble_eq_true rfl) ?_
  intro pP eE sS mM aA bB mT cC A ls Z hP hD hS hl
  have hx := Z.1
  have hb := Z.2.1
  have hown := Z.2.2.2.2.2.1
  have hts := Z.2.2.2.2.1
  have Z : zAt pP sS mM aA mT cC D cI cZ A "SurpriseTax" cX8_least 4 (some .int) := Z
  have hl : lv_has ls 4 [(0, .ref o), (1, .int x1), (2, .int x2), (3, .int u1)] := hl
  obtain ⟨H, hH⟩ : ∃ H, H = sS.heap := ⟨_, rfl⟩
  have hP : va_P D vwCl [(o, .inr (8, [.ref tx, .ref r, .ref a, .ref r2, .ref a2, .ref x, .ref y, .ref z, .ref v, .ref h, .long sd])), (r, .inr (3, [.ref ro, .ref rn, .ref rr, .int rt, .int fr, .int pr, .int (nI n), .int (nI m)])), (ro, .inl (cI, 4, .inl od)), (a, .inr (6, [.ref b])), (b, .inl (cI, 36, .inl f)), (v, .inr (1, [.ref a3, .int ch, .int tf])), (a3, .inr (6, [.ref b3])), (b3, .inl (cI, 36, .inl g3))] H := by rw [hH]; exact hP
  have hS : va_S A sS.heap H [] := by rw [hH]; exact hS
  rw [← hH]
  clear hH
  obtain ⟨locs, hlo⟩ : ∃ q : List Loc, q = [] := ⟨_, rfl⟩
  rw [← hlo] at hS ⊢
  clear hlo
  refine lv_aload_n hx hb dX8_least_0 rfl (lv_at hl 0 rfl) ?_
  refine z_get (ci := 8) (v := .ref r) Z zin8 hP 0 rfl rfl 1 (by decide) zm175 rfl rfl dX8_least_1 ?_
  refine lv_iload_n hx hb dX8_least_4 rfl (lv_at hl 1 rfl) ?_
  refine z_callVi (As := [.int x1]) (rest := []) (ci := 3) (k0 := 0) Z hP hD hS hl.1 (zc_X3_has l D cI cZ r ro rn rr rt fr pr n m x1 ) zm329 zm270 zm271 zm32 zm272 ⟨rfl, zd_X3_has⟩ ⟨Nat.le_of_ble_eq_true rfl, Nat.le_of_ble_eq_true rfl⟩ ⟨Nat.zero_le _, Nat.zero_le _⟩ [1] rfl (by decide) rfl rfl rfl (fun _ => rfl) rfl (Nat.le_of_ble_eq_true rfl) rfl dX8_least_5 (fun r_1 u H locs h_2 hP hD hS => ?_)
  have hP : va_P D vwCl [(o, .inr (8, [.ref tx, .ref r, .ref a, .ref r2, .ref a2, .ref x, .ref y, .ref z, .ref v, .ref h, .long sd])), (r, .inr (3, [.ref ro, .ref rn, .ref rr, .int rt, .int fr, .int pr, .int (nI n), .int (nI m)])), (ro, .inl (cI, 4, .inl od)), (a, .inr (6, [.ref b])), (b, .inl (cI, 36, .inl f)), (v, .inr (1, [.ref a3, .int ch, .int tf])), (a3, .inr (6, [.ref b3])), (b3, .inl (cI, 36, .inl g3))] H := hP
  have hD : va_D A [(o, .inr (8, [.ref tx, .ref r, .ref a, .ref r2, .ref a2, .ref x, .ref y, .ref z, .ref v, .ref h, .long sd])), (r, .inr (3, [.ref ro, .ref rn, .ref rr, .int rt, .int fr, .int pr, .int (nI n), .int (nI m)])), (ro, .inl (cI, 4, .inl od)), (a, .inr (6, [.ref b])), (b, .inl (cI, 36, .inl f)), (v, .inr (1, [.ref a3, .int ch, .int tf])), (a3, .inr (6, [.ref b3])), (b3, .inl (cI, 36, .inl g3))] := hD
  have h_2 : r_1 = if zhas n x1 then 1 else 0 := h_2
  subst h_2
  refine lv_if_ne (tgt := 13) hx hb dX8_least_8 (by decide) (fun c_3 => ?_) (fun c_3 => ?_)
  · have c_3 := zb1 c_3
    obtain ⟨p, hp, rfl⟩ := zhas_of (by omega) c_3
    refine lv_iload_n hx hb dX8_least_13 rfl (lv_at hl 2 rfl) ?_
    refine lv_iconst (v := nI 1) hx hb dX8_least_14 (by decide) ?_
    refine lv_icmp_lt (tgt := 23) hx hb dX8_least_15 (by decide) (fun c_4 => ?_) (fun c_4 => ?_)
    · have c_4 : x2 < 1 := c_4
      refine lv_bipush (v := -2) hx hb dX8_least_23 (by decide) ?_
      exact z_iret Z (ch, tf, g3) (by first | rw [zPa_n (by assumption)] | (rw [zPa_y hp hn]; first | rw [zRa_lo (by assumption)] | rw [zRa_hi (by assumption)] | (rw [zRa_y hN1 hN (by decide), hq, nI_clamp hq2]; rfl))) hP hS dX8_least_25
    · have c_4 : ¬ (x2 < 1) := c_4
      refine lv_iload_n hx hb dX8_least_18 rfl (lv_at hl 2 rfl) ?_
      refine lv_iconst (v := nI 3) hx hb dX8_least_19 (by decide) ?_
      refine lv_icmp_le (tgt := 26) hx hb dX8_least_20 (by decide) (fun c_5 => ?_) (fun c_5 => ?_)
      · have c_5 : x2 ≤ 3 := c_5
        obtain ⟨N, hN1, hN, rfl⟩ := zRa_of (lo := 1) (hi := 3) (by decide) (by decide) (by assumption) (by assumption)
        have h10 := zp10 hN1 hN
        refine lv_aload_n hx hb dX8_least_26 rfl (lv_at hl 0 rfl) ?_
        refine z_get (ci := 8) (v := .ref v) Z zin8 hP 0 rfl rfl 8 (by decide) zm182 rfl rfl dX8_least_27 ?_
        refine lv_aload_n hx hb dX8_least_30 rfl (lv_at hl 0 rfl) ?_
        refine z_get (ci := 8) (v := .ref r) Z zin8 hP 0 rfl rfl 1 (by decide) zm175 rfl rfl dX8_least_31 ?_
        refine lv_aload_n hx hb dX8_least_34 rfl (lv_at hl 0 rfl) ?_
        refine z_get (ci := 8) (v := .ref a) Z zin8 hP 0 rfl rfl 2 (by decide) zm176 rfl rfl dX8_least_35 ?_
        refine lv_iload_n hx hb dX8_least_38 rfl (lv_at hl 1 rfl) ?_
        refine lv_iload_n hx hb dX8_least_39 rfl (lv_at hl 2 rfl) ?_
        refine z_callVi (As := [.ref r, .ref a, .int (nI p), .int (nI N)]) (rest := []) (ci := 1) (k0 := 0) Z hP hD hS hl.1 (zc_X1_leastTenfold l D cI cZ v ch tf a3 b3 g3 r ro rn rr rt fr pr n m od a b f p N (by omega) (by omega) (by omega)) zm464 zm465 zm466 zm37 zm467 ⟨rfl, zd_X1_leastTenfold⟩ ⟨Nat.le_of_ble_eq_true rfl, Nat.le_of_ble_eq_true rfl⟩ ⟨Nat.zero_le _, Nat.zero_le _⟩ [5, 6, 7, 1, 2, 3, 4] rfl (by decide) rfl rfl rfl (fun _ => rfl) rfl (Nat.le_of_ble_eq_true rfl) rfl dX8_least_40 (fun r_6 u H locs h_7 hP hD hS => ?_)
        obtain ⟨ch2_8, tf2_9, g2_10⟩ := u
        have hP : va_P D vwCl [(o, .inr (8, [.ref tx, .ref r, .ref a, .ref r2, .ref a2, .ref x, .ref y, .ref z, .ref v, .ref h, .long sd])), (r, .inr (3, [.ref ro, .ref rn, .ref rr, .int rt, .int fr, .int pr, .int (nI n), .int (nI m)])), (ro, .inl (cI, 4, .inl od)), (a, .inr (6, [.ref b])), (b, .inl (cI, 36, .inl f)), (v, .inr (1, [.ref a3, .int ch2_8, .int tf2_9])), (a3, .inr (6, [.ref b3])), (b3, .inl (cI, 36, .inl g2_10))] H := hP
        have hD : va_D A [(o, .inr (8, [.ref tx, .ref r, .ref a, .ref r2, .ref a2, .ref x, .ref y, .ref z, .ref v, .ref h, .long sd])), (r, .inr (3, [.ref ro, .ref rn, .ref rr, .int rt, .int fr, .int pr, .int (nI n), .int (nI m)])), (ro, .inl (cI, 4, .inl od)), (a, .inr (6, [.ref b])), (b, .inl (cI, 36, .inl f)), (v, .inr (1, [.ref a3, .int ch2_8, .int tf2_9])), (a3, .inr (6, [.ref b3])), (b3, .inl (cI, 36, .inl g2_10))] := hD
        have h_7 : r_6 = zls f od rt fr pr n p N N := h_7
        subst h_7
        obtain ⟨q, hq, hq2⟩ := hls p hp N hN
        refine z_top (y := nI q) (hq) ?_
        refine lv_bipush (v := nI 10) hx hb dX8_least_43 (by decide) ?_
        refine lv_iload_n hx hb dX8_least_45 rfl (lv_at hl 2 rfl) ?_
        refine z_callSi (As := [.int (nI 10), .int (nI N)]) (rest := [.int (nI q)]) Z hP hD hS hl.1 (zc_X8_power l D cI cZ 10 N (by omega)) zm476 zm468 zm30 zm469 zd_X8_power ⟨Nat.le_of_ble_eq_true rfl, Nat.le_of_ble_eq_true rfl⟩ ⟨Nat.zero_le _, Nat.zero_le _⟩ [] rfl (by decide) (fun _ => rfl) rfl (Nat.le_of_ble_eq_true rfl) rfl dX8_least_46 (fun r_11 u H locs h_12 hP hD hS => ?_)
        have hP : va_P D vwCl [(o, .inr (8, [.ref tx, .ref r, .ref a, .ref r2, .ref a2, .ref x, .ref y, .ref z, .ref v, .ref h, .long sd])), (r, .inr (3, [.ref ro, .ref rn, .ref rr, .int rt, .int fr, .int pr, .int (nI n), .int (nI m)])), (ro, .inl (cI, 4, .inl od)), (a, .inr (6, [.ref b])), (b, .inl (cI, 36, .inl f)), (v, .inr (1, [.ref a3, .int ch2_8, .int tf2_9])), (a3, .inr (6, [.ref b3])), (b3, .inl (cI, 36, .inl g2_10))] H := hP
        have hD : va_D A [(o, .inr (8, [.ref tx, .ref r, .ref a, .ref r2, .ref a2, .ref x, .ref y, .ref z, .ref v, .ref h, .long sd])), (r, .inr (3, [.ref ro, .ref rn, .ref rr, .int rt, .int fr, .int pr, .int (nI n), .int (nI m)])), (ro, .inl (cI, 4, .inl od)), (a, .inr (6, [.ref b])), (b, .inl (cI, 36, .inl f)), (v, .inr (1, [.ref a3, .int ch2_8, .int tf2_9])), (a3, .inr (6, [.ref b3])), (b3, .inl (cI, 36, .inl g2_10))] := hD
        have h_12 : r_11 = nI (10 ^ N) := h_12
        subst h_12
        refine lv_iload_n hx hb dX8_least_49 rfl (lv_at hl 3 rfl) ?_
        refine z_callSi (As := [.int (nI q), .int (nI (10 ^ N)), .int u1]) (rest := []) Z hP hD hS hl.1 (zc_X8_inLeastTerms l D cI cZ q (10 ^ N) u1 (by omega) (by omega) (by omega)) zm436 zm437 zm30 zm438 zd_X8_inLeastTerms ⟨Nat.le_of_ble_eq_true rfl, Nat.le_of_ble_eq_true rfl⟩ ⟨Nat.zero_le _, Nat.zero_le _⟩ [] rfl (by decide) (fun _ => rfl) rfl (Nat.le_of_ble_eq_true rfl) rfl dX8_least_50 (fun r_13 u H locs h_14 hP hD hS => ?_)
        have hP : va_P D vwCl [(o, .inr (8, [.ref tx, .ref r, .ref a, .ref r2, .ref a2, .ref x, .ref y, .ref z, .ref v, .ref h, .long sd])), (r, .inr (3, [.ref ro, .ref rn, .ref rr, .int rt, .int fr, .int pr, .int (nI n), .int (nI m)])), (ro, .inl (cI, 4, .inl od)), (a, .inr (6, [.ref b])), (b, .inl (cI, 36, .inl f)), (v, .inr (1, [.ref a3, .int ch2_8, .int tf2_9])), (a3, .inr (6, [.ref b3])), (b3, .inl (cI, 36, .inl g2_10))] H := hP
        have hD : va_D A [(o, .inr (8, [.ref tx, .ref r, .ref a, .ref r2, .ref a2, .ref x, .ref y, .ref z, .ref v, .ref h, .long sd])), (r, .inr (3, [.ref ro, .ref rn, .ref rr, .int rt, .int fr, .int pr, .int (nI n), .int (nI m)])), (ro, .inl (cI, 4, .inl od)), (a, .inr (6, [.ref b])), (b, .inl (cI, 36, .inl f)), (v, .inr (1, [.ref a3, .int ch2_8, .int tf2_9])), (a3, .inr (6, [.ref b3])), (b3, .inl (cI, 36, .inl g2_10))] := hD
        have h_14 : r_13 = if u1 = 0 then nI ((10 ^ N) / Nat.gcd q (10 ^ N)) else nI (q / Nat.gcd q (10 ^ N)) := h_14
        subst h_14
        exact z_iret Z (ch2_8, tf2_9, g2_10) (by first | rw [zPa_n (by assumption)] | (rw [zPa_y hp hn]; first | rw [zRa_lo (by assumption)] | rw [zRa_hi (by assumption)] | (rw [zRa_y hN1 hN (by decide), hq, nI_clamp hq2]; rfl))) hP hS dX8_least_53
      · have c_5 : ¬ (x2 ≤ 3) := c_5
        refine lv_bipush (v := -2) hx hb dX8_least_23 (by decide) ?_
        exact z_iret Z (ch, tf, g3) (by first | rw [zPa_n (by assumption)] | (rw [zPa_y hp hn]; first | rw [zRa_lo (by assumption)] | rw [zRa_hi (by assumption)] | (rw [zRa_y hN1 hN (by decide), hq, nI_clamp hq2]; rfl))) hP hS dX8_least_25
  · have c_3 := zb0 c_3
    refine lv_iconst (v := -1) hx hb dX8_least_11 (by decide) ?_
    exact z_iret Z (ch, tf, g3) (by first | rw [zPa_n (by assumption)] | (rw [zPa_y hp hn]; first | rw [zRa_lo (by assumption)] | rw [zRa_hi (by assumption)] | (rw [zRa_y hN1 hN (by decide), hq, nI_clamp hq2]; rfl))) hP hS dX8_least_12

theorem dX8_joke_0 : decode cX8_joke 0 = .ok (.aload_n 0, 1) := by decide +kernel
theorem dX8_joke_1 : decode cX8_joke 1 = .ok (.getfield 19, 3) := by decide +kernel
theorem dX8_joke_4 : decode cX8_joke 4 = .ok (.iload_n 1, 1) := by decide +kernel
theorem dX8_joke_5 : decode cX8_joke 5 = .ok (.invokevirtual 126, 3) := by decide +kernel
theorem dX8_joke_8 : decode cX8_joke 8 = .ok (.ifCond .ne 5, 3) := by decide +kernel
theorem dX8_joke_11 : decode cX8_joke 11 = .ok (.iconst (-1), 1) := by decide +kernel
theorem dX8_joke_12 : decode cX8_joke 12 = .ok (.ireturn, 1) := by decide +kernel
theorem dX8_joke_13 : decode cX8_joke 13 = .ok (.iload_n 2, 1) := by decide +kernel
theorem dX8_joke_14 : decode cX8_joke 14 = .ok (.iconst 1, 1) := by decide +kernel
theorem dX8_joke_15 : decode cX8_joke 15 = .ok (.if_icmp .lt 8, 3) := by decide +kernel
theorem dX8_joke_18 : decode cX8_joke 18 = .ok (.iload_n 2, 1) := by decide +kernel
theorem dX8_joke_19 : decode cX8_joke 19 = .ok (.iconst 4, 1) := by decide +kernel
theorem dX8_joke_20 : decode cX8_joke 20 = .ok (.if_icmp .le 6, 3) := by decide +kernel
theorem dX8_joke_23 : decode cX8_joke 23 = .ok (.bipush (-2), 2) := by decide +kernel
theorem dX8_joke_25 : decode cX8_joke 25 = .ok (.ireturn, 1) := by decide +kernel
theorem dX8_joke_26 : decode cX8_joke 26 = .ok (.aload_n 0, 1) := by decide +kernel
theorem dX8_joke_27 : decode cX8_joke 27 = .ok (.getfield 67, 3) := by decide +kernel
theorem dX8_joke_30 : decode cX8_joke 30 = .ok (.aload_n 0, 1) := by decide +kernel
theorem dX8_joke_31 : decode cX8_joke 31 = .ok (.getfield 19, 3) := by decide +kernel
theorem dX8_joke_34 : decode cX8_joke 34 = .ok (.aload_n 0, 1) := by decide +kernel
theorem dX8_joke_35 : decode cX8_joke 35 = .ok (.getfield 26, 3) := by decide +kernel
theorem dX8_joke_38 : decode cX8_joke 38 = .ok (.iload_n 1, 1) := by decide +kernel
theorem dX8_joke_39 : decode cX8_joke 39 = .ok (.iload_n 2, 1) := by decide +kernel
theorem dX8_joke_40 : decode cX8_joke 40 = .ok (.invokevirtual 204, 3) := by decide +kernel
theorem dX8_joke_43 : decode cX8_joke 43 = .ok (.ireturn, 1) := by decide +kernel
theorem zd_X8_joke : yX8_joke.cls ≠ "java/lang/invoke/MethodHandle" ∧ yX8_joke.cls ≠ "java/lang/invoke/VarHandle" ∧ (parseMethodDescriptor yX8_joke.desc).map (fun d => d.parameters.length) = some 2 := by decide +kernel
set_option maxHeartbeats 4000000 in
set_option maxRecDepth 100000 in
theorem zc_X8_joke (l : Launch) (D : va_G) (cI cZ : ClassId) (o : Nat) (tx : Nat) (r : Nat) (a : Nat) (r2 : Nat) (a2 : Nat) (x : Nat) (y : Nat) (z : Nat) (v : Nat) (h : Nat) (sd : Int64) (ro : Nat) (rn : Nat) (rr : Nat) (rt : Int32) (fr : Int32) (pr : Int32) (n : Nat) (m : Nat) (b : Nat) (f : Nat → Int32) (jr : Int32) (a4 : Nat) (b4 : Nat) (g4 : Nat → Int32) (x1 : Int32) (x2 : Int32) (hn : n ≤ 5) : zI l yX8_joke cX8_joke 3 .int 6 143 D cI cZ [.ref o, .int x1, .int x2] [(o, .inr (8, [.ref tx, .ref r, .ref a, .ref r2, .ref a2, .ref x, .ref y, .ref z, .ref v, .ref h, .long sd])), (r, .inr (3, [.ref ro, .ref rn, .ref rr, .int rt, .int fr, .int pr, .int (nI n), .int (nI m)])), (a, .inr (6, [.ref b])), (b, .inl (cI, 36, .inl f)), (h, .inr (2, [.ref a4, .int jr])), (a4, .inr (6, [.ref b4])), (b4, .inl (cI, 36, .inl g4))] (fun (r : Int32) (u : (Nat → Int32) × Int32) => r = zPa n x1 (fun p => zRa 1 4 x2 (fun d => (zsj f rt fr n p d 0 (4 ^ d)).1) (-2)) (-1)) (fun (u : (Nat → Int32) × Int32) => [(o, .inr (8, [.ref tx, .ref r, .ref a, .ref r2, .ref a2, .ref x, .ref y, .ref z, .ref v, .ref h, .long sd])), (r, .inr (3, [.ref ro, .ref rn, .ref rr, .int rt, .int fr, .int pr, .int (nI n), .int (nI m)])), (a, .inr (6, [.ref b])), (b, .inl (cI, 36, .inl f)), (h, .inr (2, [.ref a4, .int u.2])), (a4, .inr (6, [.ref b4])), (b4, .inl (cI, 36, .inl u.1))]) := by
  refine zI_of (by decide) (Nat.le_of_ble_eq_true rfl) ?_
  intro pP eE sS mM aA bB mT cC A ls Z hP hD hS hl
  have hx := Z.1
  have hb := Z.2.1
  have hown := Z.2.2.2.2.2.1
  have hts := Z.2.2.2.2.1
  have Z : zAt pP sS mM aA mT cC D cI cZ A "SurpriseTax" cX8_joke 3 (some .int) := Z
  have hl : lv_has ls 3 [(0, .ref o), (1, .int x1), (2, .int x2)] := hl
  obtain ⟨H, hH⟩ : ∃ H, H = sS.heap := ⟨_, rfl⟩
  have hP : va_P D vwCl [(o, .inr (8, [.ref tx, .ref r, .ref a, .ref r2, .ref a2, .ref x, .ref y, .ref z, .ref v, .ref h, .long sd])), (r, .inr (3, [.ref ro, .ref rn, .ref rr, .int rt, .int fr, .int pr, .int (nI n), .int (nI m)])), (a, .inr (6, [.ref b])), (b, .inl (cI, 36, .inl f)), (h, .inr (2, [.ref a4, .int jr])), (a4, .inr (6, [.ref b4])), (b4, .inl (cI, 36, .inl g4))] H := by rw [hH]; exact hP
  have hS : va_S A sS.heap H [] := by rw [hH]; exact hS
  rw [← hH]
  clear hH
  obtain ⟨locs, hlo⟩ : ∃ q : List Loc, q = [] := ⟨_, rfl⟩
  rw [← hlo] at hS ⊢
  clear hlo
  refine lv_aload_n hx hb dX8_joke_0 rfl (lv_at hl 0 rfl) ?_
  refine z_get (ci := 8) (v := .ref r) Z zin8 hP 0 rfl rfl 1 (by decide) zm175 rfl rfl dX8_joke_1 ?_
  refine lv_iload_n hx hb dX8_joke_4 rfl (lv_at hl 1 rfl) ?_
  refine z_callVi (As := [.int x1]) (rest := []) (ci := 3) (k0 := 0) Z hP hD hS hl.1 (zc_X3_has l D cI cZ r ro rn rr rt fr pr n m x1 ) zm329 zm270 zm271 zm32 zm272 ⟨rfl, zd_X3_has⟩ ⟨Nat.le_of_ble_eq_true rfl, Nat.le_of_ble_eq_true rfl⟩ ⟨Nat.zero_le _, Nat.zero_le _⟩ [1] rfl (by decide) rfl rfl rfl (fun _ => rfl) rfl (Nat.le_of_ble_eq_true rfl) rfl dX8_joke_5 (fun r_1 u H locs h_2 hP hD hS => ?_)
  have hP : va_P D vwCl [(o, .inr (8, [.ref tx, .ref r, .ref a, .ref r2, .ref a2, .ref x, .ref y, .ref z, .ref v, .ref h, .long sd])), (r, .inr (3, [.ref ro, .ref rn, .ref rr, .int rt, .int fr, .int pr, .int (nI n), .int (nI m)])), (a, .inr (6, [.ref b])), (b, .inl (cI, 36, .inl f)), (h, .inr (2, [.ref a4, .int jr])), (a4, .inr (6, [.ref b4])), (b4, .inl (cI, 36, .inl g4))] H := hP
  have hD : va_D A [(o, .inr (8, [.ref tx, .ref r, .ref a, .ref r2, .ref a2, .ref x, .ref y, .ref z, .ref v, .ref h, .long sd])), (r, .inr (3, [.ref ro, .ref rn, .ref rr, .int rt, .int fr, .int pr, .int (nI n), .int (nI m)])), (a, .inr (6, [.ref b])), (b, .inl (cI, 36, .inl f)), (h, .inr (2, [.ref a4, .int jr])), (a4, .inr (6, [.ref b4])), (b4, .inl (cI, 36, .inl g4))] := hD
  have h_2 : r_1 = if zhas n x1 then 1 else 0 := h_2
  subst h_2
  refine lv_if_ne (tgt := 13) hx hb dX8_joke_8 (by decide) (fun c_3 => ?_) (fun c_3 => ?_)
  · have c_3 := zb1 c_3
    obtain ⟨p, hp, rfl⟩ := zhas_of (by omega) c_3
    refine lv_iload_n hx hb dX8_joke_13 rfl (lv_at hl 2 rfl) ?_
    refine lv_iconst (v := nI 1) hx hb dX8_joke_14 (by decide) ?_
    refine lv_icmp_lt (tgt := 23) hx hb dX8_joke_15 (by decide) (fun c_4 => ?_) (fun c_4 => ?_)
    · have c_4 : x2 < 1 := c_4
      refine lv_bipush (v := -2) hx hb dX8_joke_23 (by decide) ?_
      exact z_iret Z (g4, jr) (by first | rw [zPa_n (by assumption)] | (rw [zPa_y hp hn]; first | rw [zRa_lo (by assumption)] | rw [zRa_hi (by assumption)] | (rw [zRa_y hd1 hd (by decide)]; exact (zsj_jr _).1))) hP hS dX8_joke_25
    · have c_4 : ¬ (x2 < 1) := c_4
      refine lv_iload_n hx hb dX8_joke_18 rfl (lv_at hl 2 rfl) ?_
      refine lv_iconst (v := nI 4) hx hb dX8_joke_19 (by decide) ?_
      refine lv_icmp_le (tgt := 26) hx hb dX8_joke_20 (by decide) (fun c_5 => ?_) (fun c_5 => ?_)
      · have c_5 : x2 ≤ 4 := c_5
        obtain ⟨d, hd1, hd, rfl⟩ := zRa_of (lo := 1) (hi := 4) (by decide) (by decide) (by assumption) (by assumption)
        have h4d := zp4 hd
        refine lv_aload_n hx hb dX8_joke_26 rfl (lv_at hl 0 rfl) ?_
        refine z_get (ci := 8) (v := .ref h) Z zin8 hP 0 rfl rfl 9 (by decide) zm183 rfl rfl dX8_joke_27 ?_
        refine lv_aload_n hx hb dX8_joke_30 rfl (lv_at hl 0 rfl) ?_
        refine z_get (ci := 8) (v := .ref r) Z zin8 hP 0 rfl rfl 1 (by decide) zm175 rfl rfl dX8_joke_31 ?_
        refine lv_aload_n hx hb dX8_joke_34 rfl (lv_at hl 0 rfl) ?_
        refine z_get (ci := 8) (v := .ref a) Z zin8 hP 0 rfl rfl 2 (by decide) zm176 rfl rfl dX8_joke_35 ?_
        refine lv_iload_n hx hb dX8_joke_38 rfl (lv_at hl 1 rfl) ?_
        refine lv_iload_n hx hb dX8_joke_39 rfl (lv_at hl 2 rfl) ?_
        refine z_callVi (As := [.ref r, .ref a, .int (nI p), .int (nI d)]) (rest := []) (ci := 2) (k0 := 0) Z hP hD hS hl.1 (zc_X2_seekJoke l D cI cZ h jr a4 b4 g4 r ro rn rr rt fr pr n m a b f p d (by omega) (by omega) (by omega)) zm481 zm482 zm483 zm38 zm484 ⟨rfl, zd_X2_seekJoke⟩ ⟨Nat.le_of_ble_eq_true rfl, Nat.le_of_ble_eq_true rfl⟩ ⟨Nat.zero_le _, Nat.zero_le _⟩ [4, 5, 6, 1, 2, 3] rfl (by decide) rfl rfl rfl (fun _ => rfl) rfl (Nat.le_of_ble_eq_true rfl) rfl dX8_joke_40 (fun r_6 u H locs h_7 hP hD hS => ?_)
        obtain ⟨g2_8, rfl⟩ : ∃ z, z = u := ⟨_, rfl⟩
        have hP : va_P D vwCl [(o, .inr (8, [.ref tx, .ref r, .ref a, .ref r2, .ref a2, .ref x, .ref y, .ref z, .ref v, .ref h, .long sd])), (r, .inr (3, [.ref ro, .ref rn, .ref rr, .int rt, .int fr, .int pr, .int (nI n), .int (nI m)])), (a, .inr (6, [.ref b])), (b, .inl (cI, 36, .inl f)), (h, .inr (2, [.ref a4, .int ((zsj f rt fr n p d jr (4 ^ d)).2)])), (a4, .inr (6, [.ref b4])), (b4, .inl (cI, 36, .inl g2_8))] H := hP
        have hD : va_D A [(o, .inr (8, [.ref tx, .ref r, .ref a, .ref r2, .ref a2, .ref x, .ref y, .ref z, .ref v, .ref h, .long sd])), (r, .inr (3, [.ref ro, .ref rn, .ref rr, .int rt, .int fr, .int pr, .int (nI n), .int (nI m)])), (a, .inr (6, [.ref b])), (b, .inl (cI, 36, .inl f)), (h, .inr (2, [.ref a4, .int ((zsj f rt fr n p d jr (4 ^ d)).2)])), (a4, .inr (6, [.ref b4])), (b4, .inl (cI, 36, .inl g2_8))] := hD
        have h_7 : r_6 = (zsj f rt fr n p d jr (4 ^ d)).1 := h_7
        subst h_7
        exact z_iret Z (g2_8, (zsj f rt fr n p d jr (4 ^ d)).2) (by first | rw [zPa_n (by assumption)] | (rw [zPa_y hp hn]; first | rw [zRa_lo (by assumption)] | rw [zRa_hi (by assumption)] | (rw [zRa_y hd1 hd (by decide)]; exact (zsj_jr _).1))) hP hS dX8_joke_43
      · have c_5 : ¬ (x2 ≤ 4) := c_5
        refine lv_bipush (v := -2) hx hb dX8_joke_23 (by decide) ?_
        exact z_iret Z (g4, jr) (by first | rw [zPa_n (by assumption)] | (rw [zPa_y hp hn]; first | rw [zRa_lo (by assumption)] | rw [zRa_hi (by assumption)] | (rw [zRa_y hd1 hd (by decide)]; exact (zsj_jr _).1))) hP hS dX8_joke_25
  · have c_3 := zb0 c_3
    refine lv_iconst (v := -1) hx hb dX8_joke_11 (by decide) ?_
    exact z_iret Z (g4, jr) (by first | rw [zPa_n (by assumption)] | (rw [zPa_y hp hn]; first | rw [zRa_lo (by assumption)] | rw [zRa_hi (by assumption)] | (rw [zRa_y hd1 hd (by decide)]; exact (zsj_jr _).1))) hP hS dX8_joke_12

theorem dX8_jokeAt_0 : decode cX8_jokeAt 0 = .ok (.aload_n 0, 1) := by decide +kernel
theorem dX8_jokeAt_1 : decode cX8_jokeAt 1 = .ok (.getfield 19, 3) := by decide +kernel
theorem dX8_jokeAt_4 : decode cX8_jokeAt 4 = .ok (.iload_n 1, 1) := by decide +kernel
theorem dX8_jokeAt_5 : decode cX8_jokeAt 5 = .ok (.invokevirtual 126, 3) := by decide +kernel
theorem dX8_jokeAt_8 : decode cX8_jokeAt 8 = .ok (.ifCond .ne 5, 3) := by decide +kernel
theorem dX8_jokeAt_11 : decode cX8_jokeAt 11 = .ok (.iconst (-1), 1) := by decide +kernel
theorem dX8_jokeAt_12 : decode cX8_jokeAt 12 = .ok (.ireturn, 1) := by decide +kernel
theorem dX8_jokeAt_13 : decode cX8_jokeAt 13 = .ok (.iload_n 2, 1) := by decide +kernel
theorem dX8_jokeAt_14 : decode cX8_jokeAt 14 = .ok (.iconst 1, 1) := by decide +kernel
theorem dX8_jokeAt_15 : decode cX8_jokeAt 15 = .ok (.if_icmp .lt 8, 3) := by decide +kernel
theorem dX8_jokeAt_18 : decode cX8_jokeAt 18 = .ok (.iload_n 2, 1) := by decide +kernel
theorem dX8_jokeAt_19 : decode cX8_jokeAt 19 = .ok (.iconst 4, 1) := by decide +kernel
theorem dX8_jokeAt_20 : decode cX8_jokeAt 20 = .ok (.if_icmp .le 6, 3) := by decide +kernel
theorem dX8_jokeAt_23 : decode cX8_jokeAt 23 = .ok (.bipush (-2), 2) := by decide +kernel
theorem dX8_jokeAt_25 : decode cX8_jokeAt 25 = .ok (.ireturn, 1) := by decide +kernel
theorem dX8_jokeAt_26 : decode cX8_jokeAt 26 = .ok (.iload_n 3, 1) := by decide +kernel
theorem dX8_jokeAt_27 : decode cX8_jokeAt 27 = .ok (.ifCond .lt 30, 3) := by decide +kernel
theorem dX8_jokeAt_30 : decode cX8_jokeAt 30 = .ok (.iload_n 3, 1) := by decide +kernel
theorem dX8_jokeAt_31 : decode cX8_jokeAt 31 = .ok (.iload_n 2, 1) := by decide +kernel
theorem dX8_jokeAt_32 : decode cX8_jokeAt 32 = .ok (.if_icmp .ge 25, 3) := by decide +kernel
theorem dX8_jokeAt_35 : decode cX8_jokeAt 35 = .ok (.aload_n 0, 1) := by decide +kernel
theorem dX8_jokeAt_36 : decode cX8_jokeAt 36 = .ok (.getfield 67, 3) := by decide +kernel
theorem dX8_jokeAt_39 : decode cX8_jokeAt 39 = .ok (.aload_n 0, 1) := by decide +kernel
theorem dX8_jokeAt_40 : decode cX8_jokeAt 40 = .ok (.getfield 19, 3) := by decide +kernel
theorem dX8_jokeAt_43 : decode cX8_jokeAt 43 = .ok (.aload_n 0, 1) := by decide +kernel
theorem dX8_jokeAt_44 : decode cX8_jokeAt 44 = .ok (.getfield 26, 3) := by decide +kernel
theorem dX8_jokeAt_47 : decode cX8_jokeAt 47 = .ok (.iload_n 1, 1) := by decide +kernel
theorem dX8_jokeAt_48 : decode cX8_jokeAt 48 = .ok (.iload_n 2, 1) := by decide +kernel
theorem dX8_jokeAt_49 : decode cX8_jokeAt 49 = .ok (.invokevirtual 204, 3) := by decide +kernel
theorem dX8_jokeAt_52 : decode cX8_jokeAt 52 = .ok (.bipush (-9), 2) := by decide +kernel
theorem dX8_jokeAt_54 : decode cX8_jokeAt 54 = .ok (.if_icmp .ne 6, 3) := by decide +kernel
theorem dX8_jokeAt_57 : decode cX8_jokeAt 57 = .ok (.bipush (-9), 2) := by decide +kernel
theorem dX8_jokeAt_59 : decode cX8_jokeAt 59 = .ok (.ireturn, 1) := by decide +kernel
theorem dX8_jokeAt_60 : decode cX8_jokeAt 60 = .ok (.aload_n 0, 1) := by decide +kernel
theorem dX8_jokeAt_61 : decode cX8_jokeAt 61 = .ok (.getfield 67, 3) := by decide +kernel
theorem dX8_jokeAt_64 : decode cX8_jokeAt 64 = .ok (.iload_n 2, 1) := by decide +kernel
theorem dX8_jokeAt_65 : decode cX8_jokeAt 65 = .ok (.iload_n 3, 1) := by decide +kernel
theorem dX8_jokeAt_66 : decode cX8_jokeAt 66 = .ok (.invokevirtual 207, 3) := by decide +kernel
theorem dX8_jokeAt_69 : decode cX8_jokeAt 69 = .ok (.ireturn, 1) := by decide +kernel
theorem zd_X8_jokeAt : yX8_jokeAt.cls ≠ "java/lang/invoke/MethodHandle" ∧ yX8_jokeAt.cls ≠ "java/lang/invoke/VarHandle" ∧ (parseMethodDescriptor yX8_jokeAt.desc).map (fun d => d.parameters.length) = some 3 := by decide +kernel
set_option maxHeartbeats 4000000 in
set_option maxRecDepth 100000 in
theorem zc_X8_jokeAt (l : Launch) (D : va_G) (cI cZ : ClassId) (o : Nat) (tx : Nat) (r : Nat) (a : Nat) (r2 : Nat) (a2 : Nat) (x : Nat) (y : Nat) (z : Nat) (v : Nat) (h : Nat) (sd : Int64) (ro : Nat) (rn : Nat) (rr : Nat) (rt : Int32) (fr : Int32) (pr : Int32) (n : Nat) (m : Nat) (b : Nat) (f : Nat → Int32) (jr : Int32) (a4 : Nat) (b4 : Nat) (g4 : Nat → Int32) (x1 : Int32) (x2 : Int32) (x3 : Int32) (hn : n ≤ 5) : zI l yX8_jokeAt cX8_jokeAt 4 .int 6 143 D cI cZ [.ref o, .int x1, .int x2, .int x3] [(o, .inr (8, [.ref tx, .ref r, .ref a, .ref r2, .ref a2, .ref x, .ref y, .ref z, .ref v, .ref h, .long sd])), (r, .inr (3, [.ref ro, .ref rn, .ref rr, .int rt, .int fr, .int pr, .int (nI n), .int (nI m)])), (a, .inr (6, [.ref b])), (b, .inl (cI, 36, .inl f)), (h, .inr (2, [.ref a4, .int jr])), (a4, .inr (6, [.ref b4])), (b4, .inl (cI, 36, .inl g4))] (fun (r : Int32) (u : (Nat → Int32) × Int32) => r = zPa n x1 (fun p => zRa 1 4 x2 (fun d => zJA f rt fr n p d x3) (-2)) (-1)) (fun (u : (Nat → Int32) × Int32) => [(o, .inr (8, [.ref tx, .ref r, .ref a, .ref r2, .ref a2, .ref x, .ref y, .ref z, .ref v, .ref h, .long sd])), (r, .inr (3, [.ref ro, .ref rn, .ref rr, .int rt, .int fr, .int pr, .int (nI n), .int (nI m)])), (a, .inr (6, [.ref b])), (b, .inl (cI, 36, .inl f)), (h, .inr (2, [.ref a4, .int u.2])), (a4, .inr (6, [.ref b4])), (b4, .inl (cI, 36, .inl u.1))]) := by
  refine zI_of (by decide) (Nat.le_of_ble_eq_true rfl) ?_
  intro pP eE sS mM aA bB mT cC A ls Z hP hD hS hl
  have hx := Z.1
  have hb := Z.2.1
  have hown := Z.2.2.2.2.2.1
  have hts := Z.2.2.2.2.1
  have Z : zAt pP sS mM aA mT cC D cI cZ A "SurpriseTax" cX8_jokeAt 4 (some .int) := Z
  have hl : lv_has ls 4 [(0, .ref o), (1, .int x1), (2, .int x2), (3, .int x3)] := hl
  obtain ⟨H, hH⟩ : ∃ H, H = sS.heap := ⟨_, rfl⟩
  have hP : va_P D vwCl [(o, .inr (8, [.ref tx, .ref r, .ref a, .ref r2, .ref a2, .ref x, .ref y, .ref z, .ref v, .ref h, .long sd])), (r, .inr (3, [.ref ro, .ref rn, .ref rr, .int rt, .int fr, .int pr, .int (nI n), .int (nI m)])), (a, .inr (6, [.ref b])), (b, .inl (cI, 36, .inl f)), (h, .inr (2, [.ref a4, .int jr])), (a4, .inr (6, [.ref b4])), (b4, .inl (cI, 36, .inl g4))] H := by rw [hH]; exact hP
  have hS : va_S A sS.heap H [] := by rw [hH]; exact hS
  rw [← hH]
  clear hH
  obtain ⟨locs, hlo⟩ : ∃ q : List Loc, q = [] := ⟨_, rfl⟩
  rw [← hlo] at hS ⊢
  clear hlo
  refine lv_aload_n hx hb dX8_jokeAt_0 rfl (lv_at hl 0 rfl) ?_
  refine z_get (ci := 8) (v := .ref r) Z zin8 hP 0 rfl rfl 1 (by decide) zm175 rfl rfl dX8_jokeAt_1 ?_
  refine lv_iload_n hx hb dX8_jokeAt_4 rfl (lv_at hl 1 rfl) ?_
  refine z_callVi (As := [.int x1]) (rest := []) (ci := 3) (k0 := 0) Z hP hD hS hl.1 (zc_X3_has l D cI cZ r ro rn rr rt fr pr n m x1 ) zm329 zm270 zm271 zm32 zm272 ⟨rfl, zd_X3_has⟩ ⟨Nat.le_of_ble_eq_true rfl, Nat.le_of_ble_eq_true rfl⟩ ⟨Nat.zero_le _, Nat.zero_le _⟩ [1] rfl (by decide) rfl rfl rfl (fun _ => rfl) rfl (Nat.le_of_ble_eq_true rfl) rfl dX8_jokeAt_5 (fun r_1 u H locs h_2 hP hD hS => ?_)
  have hP : va_P D vwCl [(o, .inr (8, [.ref tx, .ref r, .ref a, .ref r2, .ref a2, .ref x, .ref y, .ref z, .ref v, .ref h, .long sd])), (r, .inr (3, [.ref ro, .ref rn, .ref rr, .int rt, .int fr, .int pr, .int (nI n), .int (nI m)])), (a, .inr (6, [.ref b])), (b, .inl (cI, 36, .inl f)), (h, .inr (2, [.ref a4, .int jr])), (a4, .inr (6, [.ref b4])), (b4, .inl (cI, 36, .inl g4))] H := hP
  have hD : va_D A [(o, .inr (8, [.ref tx, .ref r, .ref a, .ref r2, .ref a2, .ref x, .ref y, .ref z, .ref v, .ref h, .long sd])), (r, .inr (3, [.ref ro, .ref rn, .ref rr, .int rt, .int fr, .int pr, .int (nI n), .int (nI m)])), (a, .inr (6, [.ref b])), (b, .inl (cI, 36, .inl f)), (h, .inr (2, [.ref a4, .int jr])), (a4, .inr (6, [.ref b4])), (b4, .inl (cI, 36, .inl g4))] := hD
  have h_2 : r_1 = if zhas n x1 then 1 else 0 := h_2
  subst h_2
  refine lv_if_ne (tgt := 13) hx hb dX8_jokeAt_8 (by decide) (fun c_3 => ?_) (fun c_3 => ?_)
  · have c_3 := zb1 c_3
    obtain ⟨p, hp, rfl⟩ := zhas_of (by omega) c_3
    refine lv_iload_n hx hb dX8_jokeAt_13 rfl (lv_at hl 2 rfl) ?_
    refine lv_iconst (v := nI 1) hx hb dX8_jokeAt_14 (by decide) ?_
    refine lv_icmp_lt (tgt := 23) hx hb dX8_jokeAt_15 (by decide) (fun c_4 => ?_) (fun c_4 => ?_)
    · have c_4 : x2 < 1 := c_4
      refine lv_bipush (v := -2) hx hb dX8_jokeAt_23 (by decide) ?_
      exact z_iret Z (g4, jr) (by first | rw [zPa_n (by assumption)] | (rw [zPa_y hp hn]; first | rw [zRa_lo (by assumption)] | rw [zRa_hi (by assumption)] | (rw [zRa_y hd1 hd (by decide)]; unfold zJA; first | (rw [if_neg (fun h => h.1 (by assumption))]) | (rw [if_neg (fun h => h.2 (by assumption))]) | (rw [if_pos (zhas_nat hi (by omega)), if_pos ((zsj_jr (j2 := 0) _).1 ▸ (by assumption))]) | (rw [if_pos (zhas_nat hi (by omega)), if_neg ((zsj_jr (j2 := 0) _).1 ▸ (by assumption)), ← (zsj_jr (j2 := 0) _).2.resolve_left (by assumption), hrr, nI_clamp (by omega), nI_clamp (by omega)])))) hP hS dX8_jokeAt_25
    · have c_4 : ¬ (x2 < 1) := c_4
      refine lv_iload_n hx hb dX8_jokeAt_18 rfl (lv_at hl 2 rfl) ?_
      refine lv_iconst (v := nI 4) hx hb dX8_jokeAt_19 (by decide) ?_
      refine lv_icmp_le (tgt := 26) hx hb dX8_jokeAt_20 (by decide) (fun c_5 => ?_) (fun c_5 => ?_)
      · have c_5 : x2 ≤ 4 := c_5
        obtain ⟨d, hd1, hd, rfl⟩ := zRa_of (lo := 1) (hi := 4) (by decide) (by decide) (by assumption) (by assumption)
        have h4d := zp4 hd
        refine lv_iload_n hx hb dX8_jokeAt_26 rfl (lv_at hl 3 rfl) ?_
        refine lv_if_lt (tgt := 57) hx hb dX8_jokeAt_27 (by decide) (fun c_6 => ?_) (fun c_6 => ?_)
        · have c_6 : x3 < 0 := c_6
          refine lv_bipush (v := -9) hx hb dX8_jokeAt_57 (by decide) ?_
          exact z_iret Z (g4, jr) (by first | rw [zPa_n (by assumption)] | (rw [zPa_y hp hn]; first | rw [zRa_lo (by assumption)] | rw [zRa_hi (by assumption)] | (rw [zRa_y hd1 hd (by decide)]; unfold zJA; first | (rw [if_neg (fun h => h.1 (by assumption))]) | (rw [if_neg (fun h => h.2 (by assumption))]) | (rw [if_pos (zhas_nat hi (by omega)), if_pos ((zsj_jr (j2 := 0) _).1 ▸ (by assumption))]) | (rw [if_pos (zhas_nat hi (by omega)), if_neg ((zsj_jr (j2 := 0) _).1 ▸ (by assumption)), ← (zsj_jr (j2 := 0) _).2.resolve_left (by assumption), hrr, nI_clamp (by omega), nI_clamp (by omega)])))) hP hS dX8_jokeAt_59
        · have c_6 : ¬ (x3 < 0) := c_6
          refine lv_iload_n hx hb dX8_jokeAt_30 rfl (lv_at hl 3 rfl) ?_
          refine lv_iload_n hx hb dX8_jokeAt_31 rfl (lv_at hl 2 rfl) ?_
          refine lv_icmp_ge (tgt := 57) hx hb dX8_jokeAt_32 (by decide) (fun c_7 => ?_) (fun c_7 => ?_)
          · have c_7 : (nI d) ≤ x3 := c_7
            refine lv_bipush (v := -9) hx hb dX8_jokeAt_57 (by decide) ?_
            exact z_iret Z (g4, jr) (by first | rw [zPa_n (by assumption)] | (rw [zPa_y hp hn]; first | rw [zRa_lo (by assumption)] | rw [zRa_hi (by assumption)] | (rw [zRa_y hd1 hd (by decide)]; unfold zJA; first | (rw [if_neg (fun h => h.1 (by assumption))]) | (rw [if_neg (fun h => h.2 (by assumption))]) | (rw [if_pos (zhas_nat hi (by omega)), if_pos ((zsj_jr (j2 := 0) _).1 ▸ (by assumption))]) | (rw [if_pos (zhas_nat hi (by omega)), if_neg ((zsj_jr (j2 := 0) _).1 ▸ (by assumption)), ← (zsj_jr (j2 := 0) _).2.resolve_left (by assumption), hrr, nI_clamp (by omega), nI_clamp (by omega)])))) hP hS dX8_jokeAt_59
          · have c_7 : ¬ ((nI d) ≤ x3) := c_7
            obtain ⟨i, hi, rfl⟩ := zhas_of (n := d) (by omega) ⟨by assumption, c_7⟩
            refine lv_aload_n hx hb dX8_jokeAt_35 rfl (lv_at hl 0 rfl) ?_
            refine z_get (ci := 8) (v := .ref h) Z zin8 hP 0 rfl rfl 9 (by decide) zm183 rfl rfl dX8_jokeAt_36 ?_
            refine lv_aload_n hx hb dX8_jokeAt_39 rfl (lv_at hl 0 rfl) ?_
            refine z_get (ci := 8) (v := .ref r) Z zin8 hP 0 rfl rfl 1 (by decide) zm175 rfl rfl dX8_jokeAt_40 ?_
            refine lv_aload_n hx hb dX8_jokeAt_43 rfl (lv_at hl 0 rfl) ?_
            refine z_get (ci := 8) (v := .ref a) Z zin8 hP 0 rfl rfl 2 (by decide) zm176 rfl rfl dX8_jokeAt_44 ?_
            refine lv_iload_n hx hb dX8_jokeAt_47 rfl (lv_at hl 1 rfl) ?_
            refine lv_iload_n hx hb dX8_jokeAt_48 rfl (lv_at hl 2 rfl) ?_
            refine z_callVi (As := [.ref r, .ref a, .int (nI p), .int (nI d)]) (rest := []) (ci := 2) (k0 := 0) Z hP hD hS hl.1 (zc_X2_seekJoke l D cI cZ h jr a4 b4 g4 r ro rn rr rt fr pr n m a b f p d (by omega) (by omega) (by omega)) zm481 zm482 zm483 zm38 zm484 ⟨rfl, zd_X2_seekJoke⟩ ⟨Nat.le_of_ble_eq_true rfl, Nat.le_of_ble_eq_true rfl⟩ ⟨Nat.zero_le _, Nat.zero_le _⟩ [4, 5, 6, 1, 2, 3] rfl (by decide) rfl rfl rfl (fun _ => rfl) rfl (Nat.le_of_ble_eq_true rfl) rfl dX8_jokeAt_49 (fun r_8 u H locs h_9 hP hD hS => ?_)
            obtain ⟨g2_10, rfl⟩ : ∃ z, z = u := ⟨_, rfl⟩
            have hP : va_P D vwCl [(o, .inr (8, [.ref tx, .ref r, .ref a, .ref r2, .ref a2, .ref x, .ref y, .ref z, .ref v, .ref h, .long sd])), (r, .inr (3, [.ref ro, .ref rn, .ref rr, .int rt, .int fr, .int pr, .int (nI n), .int (nI m)])), (a, .inr (6, [.ref b])), (b, .inl (cI, 36, .inl f)), (h, .inr (2, [.ref a4, .int ((zsj f rt fr n p d jr (4 ^ d)).2)])), (a4, .inr (6, [.ref b4])), (b4, .inl (cI, 36, .inl g2_10))] H := hP
            have hD : va_D A [(o, .inr (8, [.ref tx, .ref r, .ref a, .ref r2, .ref a2, .ref x, .ref y, .ref z, .ref v, .ref h, .long sd])), (r, .inr (3, [.ref ro, .ref rn, .ref rr, .int rt, .int fr, .int pr, .int (nI n), .int (nI m)])), (a, .inr (6, [.ref b])), (b, .inl (cI, 36, .inl f)), (h, .inr (2, [.ref a4, .int ((zsj f rt fr n p d jr (4 ^ d)).2)])), (a4, .inr (6, [.ref b4])), (b4, .inl (cI, 36, .inl g2_10))] := hD
            have h_9 : r_8 = (zsj f rt fr n p d jr (4 ^ d)).1 := h_9
            subst h_9
            refine lv_bipush (v := -9) hx hb dX8_jokeAt_52 (by decide) ?_
            refine lv_icmp_ne (tgt := 60) hx hb dX8_jokeAt_54 (by decide) (fun c_11 => ?_) (fun c_11 => ?_)
            · have c_11 : ¬ (((zsj f rt fr n p d jr (4 ^ d)).1) = (-9)) := c_11
              obtain ⟨r9, hr9, hrr⟩ := (zsj_row (4 ^ d)).resolve_left c_11
              have e_12 : (zsj f rt fr n p d jr (4 ^ d)).2 = nI r9 := by exact hrr
              have hP : va_P D vwCl [(o, .inr (8, [.ref tx, .ref r, .ref a, .ref r2, .ref a2, .ref x, .ref y, .ref z, .ref v, .ref h, .long sd])), (r, .inr (3, [.ref ro, .ref rn, .ref rr, .int rt, .int fr, .int pr, .int (nI n), .int (nI m)])), (a, .inr (6, [.ref b])), (b, .inl (cI, 36, .inl f)), (h, .inr (2, [.ref a4, .int (nI r9)])), (a4, .inr (6, [.ref b4])), (b4, .inl (cI, 36, .inl g2_10))] H := Eq.subst (motive := fun zz_ => va_P D vwCl [(o, .inr (8, [.ref tx, .ref r, .ref a, .ref r2, .ref a2, .ref x, .ref y, .ref z, .ref v, .ref h, .long sd])), (r, .inr (3, [.ref ro, .ref rn, .ref rr, .int rt, .int fr, .int pr, .int (nI n), .int (nI m)])), (a, .inr (6, [.ref b])), (b, .inl (cI, 36, .inl f)), (h, .inr (2, [.ref a4, .int zz_])), (a4, .inr (6, [.ref b4])), (b4, .inl (cI, 36, .inl g2_10))] H) e_12 hP
              have hD : va_D A [(o, .inr (8, [.ref tx, .ref r, .ref a, .ref r2, .ref a2, .ref x, .ref y, .ref z, .ref v, .ref h, .long sd])), (r, .inr (3, [.ref ro, .ref rn, .ref rr, .int rt, .int fr, .int pr, .int (nI n), .int (nI m)])), (a, .inr (6, [.ref b])), (b, .inl (cI, 36, .inl f)), (h, .inr (2, [.ref a4, .int (nI r9)])), (a4, .inr (6, [.ref b4])), (b4, .inl (cI, 36, .inl g2_10))] := zD_of hD rfl
              refine lv_aload_n hx hb dX8_jokeAt_60 rfl (lv_at hl 0 rfl) ?_
              refine z_get (ci := 8) (v := .ref h) Z zin8 hP 0 rfl rfl 9 (by decide) zm183 rfl rfl dX8_jokeAt_61 ?_
              refine lv_iload_n hx hb dX8_jokeAt_64 rfl (lv_at hl 2 rfl) ?_
              refine lv_iload_n hx hb dX8_jokeAt_65 rfl (lv_at hl 3 rfl) ?_
              refine z_callVi (As := [.int (nI d), .int (nI i)]) (rest := []) (ci := 2) (k0 := 0) Z hP hD hS hl.1 (zc_X2_jokeEvent l D cI cZ h a4 r9 d i (by omega) (by omega) (by omega)) zm495 zm496 zm497 zm38 zm498 ⟨rfl, zd_X2_jokeEvent⟩ ⟨Nat.le_of_ble_eq_true rfl, Nat.le_of_ble_eq_true rfl⟩ ⟨Nat.zero_le _, Nat.zero_le _⟩ [4] rfl (by decide) rfl rfl rfl (fun _ => rfl) rfl (Nat.le_of_ble_eq_true rfl) rfl dX8_jokeAt_66 (fun r_13 u H locs h_14 hP hD hS => ?_)
              have hP : va_P D vwCl [(o, .inr (8, [.ref tx, .ref r, .ref a, .ref r2, .ref a2, .ref x, .ref y, .ref z, .ref v, .ref h, .long sd])), (r, .inr (3, [.ref ro, .ref rn, .ref rr, .int rt, .int fr, .int pr, .int (nI n), .int (nI m)])), (a, .inr (6, [.ref b])), (b, .inl (cI, 36, .inl f)), (h, .inr (2, [.ref a4, .int (nI r9)])), (a4, .inr (6, [.ref b4])), (b4, .inl (cI, 36, .inl g2_10))] H := hP
              have hD : va_D A [(o, .inr (8, [.ref tx, .ref r, .ref a, .ref r2, .ref a2, .ref x, .ref y, .ref z, .ref v, .ref h, .long sd])), (r, .inr (3, [.ref ro, .ref rn, .ref rr, .int rt, .int fr, .int pr, .int (nI n), .int (nI m)])), (a, .inr (6, [.ref b])), (b, .inl (cI, 36, .inl f)), (h, .inr (2, [.ref a4, .int (nI r9)])), (a4, .inr (6, [.ref b4])), (b4, .inl (cI, 36, .inl g2_10))] := hD
              have h_14 : r_13 = nI (zki r9 d i) := h_14
              subst h_14
              exact z_iret Z (g2_10, nI r9) (by first | rw [zPa_n (by assumption)] | (rw [zPa_y hp hn]; first | rw [zRa_lo (by assumption)] | rw [zRa_hi (by assumption)] | (rw [zRa_y hd1 hd (by decide)]; unfold zJA; first | (rw [if_neg (fun h => h.1 (by assumption))]) | (rw [if_neg (fun h => h.2 (by assumption))]) | (rw [if_pos (zhas_nat hi (by omega)), if_pos ((zsj_jr (j2 := 0) _).1 ▸ (by assumption))]) | (rw [if_pos (zhas_nat hi (by omega)), if_neg ((zsj_jr (j2 := 0) _).1 ▸ (by assumption)), ← (zsj_jr (j2 := 0) _).2.resolve_left (by assumption), hrr, nI_clamp (by omega), nI_clamp (by omega)])))) hP hS dX8_jokeAt_69
            · have c_11 : ((zsj f rt fr n p d jr (4 ^ d)).1) = (-9) := c_11
              refine lv_bipush (v := -9) hx hb dX8_jokeAt_57 (by decide) ?_
              exact z_iret Z (g2_10, (zsj f rt fr n p d jr (4 ^ d)).2) (by first | rw [zPa_n (by assumption)] | (rw [zPa_y hp hn]; first | rw [zRa_lo (by assumption)] | rw [zRa_hi (by assumption)] | (rw [zRa_y hd1 hd (by decide)]; unfold zJA; first | (rw [if_neg (fun h => h.1 (by assumption))]) | (rw [if_neg (fun h => h.2 (by assumption))]) | (rw [if_pos (zhas_nat hi (by omega)), if_pos ((zsj_jr (j2 := 0) _).1 ▸ (by assumption))]) | (rw [if_pos (zhas_nat hi (by omega)), if_neg ((zsj_jr (j2 := 0) _).1 ▸ (by assumption)), ← (zsj_jr (j2 := 0) _).2.resolve_left (by assumption), hrr, nI_clamp (by omega), nI_clamp (by omega)])))) hP hS dX8_jokeAt_59
      · have c_5 : ¬ (x2 ≤ 4) := c_5
        refine lv_bipush (v := -2) hx hb dX8_jokeAt_23 (by decide) ?_
        exact z_iret Z (g4, jr) (by first | rw [zPa_n (by assumption)] | (rw [zPa_y hp hn]; first | rw [zRa_lo (by assumption)] | rw [zRa_hi (by assumption)] | (rw [zRa_y hd1 hd (by decide)]; unfold zJA; first | (rw [if_neg (fun h => h.1 (by assumption))]) | (rw [if_neg (fun h => h.2 (by assumption))]) | (rw [if_pos (zhas_nat hi (by omega)), if_pos ((zsj_jr (j2 := 0) _).1 ▸ (by assumption))]) | (rw [if_pos (zhas_nat hi (by omega)), if_neg ((zsj_jr (j2 := 0) _).1 ▸ (by assumption)), ← (zsj_jr (j2 := 0) _).2.resolve_left (by assumption), hrr, nI_clamp (by omega), nI_clamp (by omega)])))) hP hS dX8_jokeAt_25
  · have c_3 := zb0 c_3
    refine lv_iconst (v := -1) hx hb dX8_jokeAt_11 (by decide) ?_
    exact z_iret Z (g4, jr) (by first | rw [zPa_n (by assumption)] | (rw [zPa_y hp hn]; first | rw [zRa_lo (by assumption)] | rw [zRa_hi (by assumption)] | (rw [zRa_y hd1 hd (by decide)]; unfold zJA; first | (rw [if_neg (fun h => h.1 (by assumption))]) | (rw [if_neg (fun h => h.2 (by assumption))]) | (rw [if_pos (zhas_nat hi (by omega)), if_pos ((zsj_jr (j2 := 0) _).1 ▸ (by assumption))]) | (rw [if_pos (zhas_nat hi (by omega)), if_neg ((zsj_jr (j2 := 0) _).1 ▸ (by assumption)), ← (zsj_jr (j2 := 0) _).2.resolve_left (by assumption), hrr, nI_clamp (by omega), nI_clamp (by omega)])))) hP hS dX8_jokeAt_12

theorem dX8_broke_0 : decode cX8_broke 0 = .ok (.iload_n 1, 1) := by decide +kernel
theorem dX8_broke_1 : decode cX8_broke 1 = .ok (.invokestatic 130, 3) := by decide +kernel
theorem dX8_broke_4 : decode cX8_broke 4 = .ok (.ifCond .ne 6, 3) := by decide +kernel
theorem dX8_broke_7 : decode cX8_broke 7 = .ok (.bipush (-2), 2) := by decide +kernel
theorem dX8_broke_9 : decode cX8_broke 9 = .ok (.ireturn, 1) := by decide +kernel
theorem dX8_broke_10 : decode cX8_broke 10 = .ok (.aload_n 0, 1) := by decide +kernel
theorem dX8_broke_11 : decode cX8_broke 11 = .ok (.getfield 67, 3) := by decide +kernel
theorem dX8_broke_14 : decode cX8_broke 14 = .ok (.aload_n 0, 1) := by decide +kernel
theorem dX8_broke_15 : decode cX8_broke 15 = .ok (.getfield 19, 3) := by decide +kernel
theorem dX8_broke_18 : decode cX8_broke 18 = .ok (.aload_n 0, 1) := by decide +kernel
theorem dX8_broke_19 : decode cX8_broke 19 = .ok (.getfield 26, 3) := by decide +kernel
theorem dX8_broke_22 : decode cX8_broke 22 = .ok (.iload_n 1, 1) := by decide +kernel
theorem dX8_broke_23 : decode cX8_broke 23 = .ok (.invokevirtual 210, 3) := by decide +kernel
theorem dX8_broke_26 : decode cX8_broke 26 = .ok (.ireturn, 1) := by decide +kernel
theorem zd_X8_broke : yX8_broke.cls ≠ "java/lang/invoke/MethodHandle" ∧ yX8_broke.cls ≠ "java/lang/invoke/VarHandle" ∧ (parseMethodDescriptor yX8_broke.desc).map (fun d => d.parameters.length) = some 1 := by decide +kernel
set_option maxHeartbeats 4000000 in
set_option maxRecDepth 100000 in
theorem zc_X8_broke (l : Launch) (D : va_G) (cI cZ : ClassId) (o : Nat) (tx : Nat) (r : Nat) (a : Nat) (r2 : Nat) (a2 : Nat) (x : Nat) (y : Nat) (z : Nat) (v : Nat) (h : Nat) (sd : Int64) (ro : Nat) (rn : Nat) (rr : Nat) (rt : Int32) (fr : Int32) (pr : Int32) (n : Nat) (m : Nat) (b : Nat) (f : Nat → Int32) (jr : Int32) (a4 : Nat) (b4 : Nat) (g4 : Nat → Int32) (x1 : Int32) (hn : n ≤ 5) : zI l yX8_broke cX8_broke 2 .int 5 112 D cI cZ [.ref o, .int x1] [(o, .inr (8, [.ref tx, .ref r, .ref a, .ref r2, .ref a2, .ref x, .ref y, .ref z, .ref v, .ref h, .long sd])), (r, .inr (3, [.ref ro, .ref rn, .ref rr, .int rt, .int fr, .int pr, .int (nI n), .int (nI m)])), (a, .inr (6, [.ref b])), (b, .inl (cI, 36, .inl f)), (h, .inr (2, [.ref a4, .int jr])), (a4, .inr (6, [.ref b4])), (b4, .inl (cI, 36, .inl g4))] (fun (r : Int32) (u : (Nat → Int32)) => r = zKa x1 (fun k => zeu f rt fr n k 31 0) (-2)) (fun (u : (Nat → Int32)) => [(o, .inr (8, [.ref tx, .ref r, .ref a, .ref r2, .ref a2, .ref x, .ref y, .ref z, .ref v, .ref h, .long sd])), (r, .inr (3, [.ref ro, .ref rn, .ref rr, .int rt, .int fr, .int pr, .int (nI n), .int (nI m)])), (a, .inr (6, [.ref b])), (b, .inl (cI, 36, .inl f)), (h, .inr (2, [.ref a4, .int jr])), (a4, .inr (6, [.ref b4])), (b4, .inl (cI, 36, .inl u))]) := by
  refine zI_of (by decide) (Nat.le_of_ble_eq_true rfl) ?_
  intro pP eE sS mM aA bB mT cC A ls Z hP hD hS hl
  have hx := Z.1
  have hb := Z.2.1
  have hown := Z.2.2.2.2.2.1
  have hts := Z.2.2.2.2.1
  have Z : zAt pP sS mM aA mT cC D cI cZ A "SurpriseTax" cX8_broke 2 (some .int) := Z
  have hl : lv_has ls 2 [(0, .ref o), (1, .int x1)] := hl
  obtain ⟨H, hH⟩ : ∃ H, H = sS.heap := ⟨_, rfl⟩
  have hP : va_P D vwCl [(o, .inr (8, [.ref tx, .ref r, .ref a, .ref r2, .ref a2, .ref x, .ref y, .ref z, .ref v, .ref h, .long sd])), (r, .inr (3, [.ref ro, .ref rn, .ref rr, .int rt, .int fr, .int pr, .int (nI n), .int (nI m)])), (a, .inr (6, [.ref b])), (b, .inl (cI, 36, .inl f)), (h, .inr (2, [.ref a4, .int jr])), (a4, .inr (6, [.ref b4])), (b4, .inl (cI, 36, .inl g4))] H := by rw [hH]; exact hP
  have hS : va_S A sS.heap H [] := by rw [hH]; exact hS
  rw [← hH]
  clear hH
  obtain ⟨locs, hlo⟩ : ∃ q : List Loc, q = [] := ⟨_, rfl⟩
  rw [← hlo] at hS ⊢
  clear hlo
  refine lv_iload_n hx hb dX8_broke_0 rfl (lv_at hl 1 rfl) ?_
  refine z_callSi (As := [.int x1]) (rest := []) Z hP hD hS hl.1 (zc_X8_isKind l D cI cZ x1 ) zm330 zm331 zm30 zm332 zd_X8_isKind ⟨Nat.le_of_ble_eq_true rfl, Nat.le_of_ble_eq_true rfl⟩ ⟨Nat.zero_le _, Nat.zero_le _⟩ [] rfl (by decide) (fun _ => rfl) rfl (Nat.le_of_ble_eq_true rfl) rfl dX8_broke_1 (fun r_1 u H locs h_2 hP hD hS => ?_)
  have hP : va_P D vwCl [(o, .inr (8, [.ref tx, .ref r, .ref a, .ref r2, .ref a2, .ref x, .ref y, .ref z, .ref v, .ref h, .long sd])), (r, .inr (3, [.ref ro, .ref rn, .ref rr, .int rt, .int fr, .int pr, .int (nI n), .int (nI m)])), (a, .inr (6, [.ref b])), (b, .inl (cI, 36, .inl f)), (h, .inr (2, [.ref a4, .int jr])), (a4, .inr (6, [.ref b4])), (b4, .inl (cI, 36, .inl g4))] H := hP
  have hD : va_D A [(o, .inr (8, [.ref tx, .ref r, .ref a, .ref r2, .ref a2, .ref x, .ref y, .ref z, .ref v, .ref h, .long sd])), (r, .inr (3, [.ref ro, .ref rn, .ref rr, .int rt, .int fr, .int pr, .int (nI n), .int (nI m)])), (a, .inr (6, [.ref b])), (b, .inl (cI, 36, .inl f)), (h, .inr (2, [.ref a4, .int jr])), (a4, .inr (6, [.ref b4])), (b4, .inl (cI, 36, .inl g4))] := hD
  have h_2 : r_1 = if zkind x1 then 1 else 0 := h_2
  subst h_2
  refine lv_if_ne (tgt := 10) hx hb dX8_broke_4 (by decide) (fun c_3 => ?_) (fun c_3 => ?_)
  · have c_3 := zb1 c_3
    obtain ⟨k, hk, rfl⟩ := zkind_of c_3
    refine lv_aload_n hx hb dX8_broke_10 rfl (lv_at hl 0 rfl) ?_
    refine z_get (ci := 8) (v := .ref h) Z zin8 hP 0 rfl rfl 9 (by decide) zm183 rfl rfl dX8_broke_11 ?_
    refine lv_aload_n hx hb dX8_broke_14 rfl (lv_at hl 0 rfl) ?_
    refine z_get (ci := 8) (v := .ref r) Z zin8 hP 0 rfl rfl 1 (by decide) zm175 rfl rfl dX8_broke_15 ?_
    refine lv_aload_n hx hb dX8_broke_18 rfl (lv_at hl 0 rfl) ?_
    refine z_get (ci := 8) (v := .ref a) Z zin8 hP 0 rfl rfl 2 (by decide) zm176 rfl rfl dX8_broke_19 ?_
    refine lv_iload_n hx hb dX8_broke_22 rfl (lv_at hl 1 rfl) ?_
    refine z_callVi (As := [.ref r, .ref a, .int (nI k)]) (rest := []) (ci := 2) (k0 := 0) Z hP hD hS hl.1 (zc_X2_eventsUntilDebt l D cI cZ h jr a4 b4 g4 r ro rn rr rt fr pr n m a b f k (by omega) (by omega)) zm503 zm504 zm505 zm38 zm506 ⟨rfl, zd_X2_eventsUntilDebt⟩ ⟨Nat.le_of_ble_eq_true rfl, Nat.le_of_ble_eq_true rfl⟩ ⟨Nat.zero_le _, Nat.zero_le _⟩ [4, 5, 6, 1, 2, 3] rfl (by decide) rfl rfl rfl (fun _ => rfl) rfl (Nat.le_of_ble_eq_true rfl) rfl dX8_broke_23 (fun r_4 u H locs h_5 hP hD hS => ?_)
    obtain ⟨g2_6, rfl⟩ : ∃ z, z = u := ⟨_, rfl⟩
    have hP : va_P D vwCl [(o, .inr (8, [.ref tx, .ref r, .ref a, .ref r2, .ref a2, .ref x, .ref y, .ref z, .ref v, .ref h, .long sd])), (r, .inr (3, [.ref ro, .ref rn, .ref rr, .int rt, .int fr, .int pr, .int (nI n), .int (nI m)])), (a, .inr (6, [.ref b])), (b, .inl (cI, 36, .inl f)), (h, .inr (2, [.ref a4, .int jr])), (a4, .inr (6, [.ref b4])), (b4, .inl (cI, 36, .inl g2_6))] H := hP
    have hD : va_D A [(o, .inr (8, [.ref tx, .ref r, .ref a, .ref r2, .ref a2, .ref x, .ref y, .ref z, .ref v, .ref h, .long sd])), (r, .inr (3, [.ref ro, .ref rn, .ref rr, .int rt, .int fr, .int pr, .int (nI n), .int (nI m)])), (a, .inr (6, [.ref b])), (b, .inl (cI, 36, .inl f)), (h, .inr (2, [.ref a4, .int jr])), (a4, .inr (6, [.ref b4])), (b4, .inl (cI, 36, .inl g2_6))] := hD
    have h_5 : r_4 = zeu f rt fr n k 31 0 := h_5
    subst h_5
    exact z_iret Z (g2_6) (by first | rw [zKa_n (by assumption)] | rw [zKa_y hk]) hP hS dX8_broke_26
  · have c_3 := zb0 c_3
    refine lv_bipush (v := -2) hx hb dX8_broke_7 (by decide) ?_
    exact z_iret Z (g4) (by first | rw [zKa_n (by assumption)] | rw [zKa_y hk]) hP hS dX8_broke_9

theorem dX8_reform_0 : decode cX8_reform 0 = .ok (.iload_n 1, 1) := by decide +kernel
theorem dX8_reform_1 : decode cX8_reform 1 = .ok (.invokestatic 130, 3) := by decide +kernel
theorem dX8_reform_4 : decode cX8_reform 4 = .ok (.ifCond .ne 6, 3) := by decide +kernel
theorem dX8_reform_7 : decode cX8_reform 7 = .ok (.bipush (-2), 2) := by decide +kernel
theorem dX8_reform_9 : decode cX8_reform 9 = .ok (.ireturn, 1) := by decide +kernel
theorem dX8_reform_10 : decode cX8_reform 10 = .ok (.aload_n 0, 1) := by decide +kernel
theorem dX8_reform_11 : decode cX8_reform 11 = .ok (.getfield 67, 3) := by decide +kernel
theorem dX8_reform_14 : decode cX8_reform 14 = .ok (.aload_n 0, 1) := by decide +kernel
theorem dX8_reform_15 : decode cX8_reform 15 = .ok (.getfield 19, 3) := by decide +kernel
theorem dX8_reform_18 : decode cX8_reform 18 = .ok (.aload_n 0, 1) := by decide +kernel
theorem dX8_reform_19 : decode cX8_reform 19 = .ok (.getfield 26, 3) := by decide +kernel
theorem dX8_reform_22 : decode cX8_reform 22 = .ok (.iload_n 1, 1) := by decide +kernel
theorem dX8_reform_23 : decode cX8_reform 23 = .ok (.invokevirtual 213, 3) := by decide +kernel
theorem dX8_reform_26 : decode cX8_reform 26 = .ok (.ireturn, 1) := by decide +kernel
theorem zd_X8_reform : yX8_reform.cls ≠ "java/lang/invoke/MethodHandle" ∧ yX8_reform.cls ≠ "java/lang/invoke/VarHandle" ∧ (parseMethodDescriptor yX8_reform.desc).map (fun d => d.parameters.length) = some 1 := by decide +kernel
set_option maxHeartbeats 4000000 in
set_option maxRecDepth 100000 in
theorem zc_X8_reform (l : Launch) (D : va_G) (cI cZ : ClassId) (o : Nat) (tx : Nat) (r : Nat) (a : Nat) (r2 : Nat) (a2 : Nat) (x : Nat) (y : Nat) (z : Nat) (v : Nat) (h : Nat) (sd : Int64) (ro : Nat) (rn : Nat) (rr : Nat) (rt : Int32) (fr : Int32) (pr : Int32) (n : Nat) (m : Nat) (b : Nat) (f : Nat → Int32) (jr : Int32) (a4 : Nat) (b4 : Nat) (g4 : Nat → Int32) (x1 : Int32) (hn : n ≤ 5) : zI l yX8_reform cX8_reform 2 .int 4 92 D cI cZ [.ref o, .int x1] [(o, .inr (8, [.ref tx, .ref r, .ref a, .ref r2, .ref a2, .ref x, .ref y, .ref z, .ref v, .ref h, .long sd])), (r, .inr (3, [.ref ro, .ref rn, .ref rr, .int rt, .int fr, .int pr, .int (nI n), .int (nI m)])), (a, .inr (6, [.ref b])), (b, .inl (cI, 36, .inl f)), (h, .inr (2, [.ref a4, .int jr])), (a4, .inr (6, [.ref b4])), (b4, .inl (cI, 36, .inl g4))] (fun (r : Int32) (u : Unit) => r = zKa x1 (fun k => (znr f rt fr n k 10).1) (-2)) (fun (u : Unit) => [(o, .inr (8, [.ref tx, .ref r, .ref a, .ref r2, .ref a2, .ref x, .ref y, .ref z, .ref v, .ref h, .long sd])), (r, .inr (3, [.ref ro, .ref rn, .ref rr, .int rt, .int fr, .int pr, .int (nI n), .int (nI m)])), (a, .inr (6, [.ref b])), (b, .inl (cI, 36, .inl f)), (h, .inr (2, [.ref a4, .int jr])), (a4, .inr (6, [.ref b4])), (b4, .inl (cI, 36, .inl g4))]) := by
  refine zI_of (by decide) (Nat.le_of_ble_eq_true rfl) ?_
  intro pP eE sS mM aA bB mT cC A ls Z hP hD hS hl
  have hx := Z.1
  have hb := Z.2.1
  have hown := Z.2.2.2.2.2.1
  have hts := Z.2.2.2.2.1
  have Z : zAt pP sS mM aA mT cC D cI cZ A "SurpriseTax" cX8_reform 2 (some .int) := Z
  have hl : lv_has ls 2 [(0, .ref o), (1, .int x1)] := hl
  obtain ⟨H, hH⟩ : ∃ H, H = sS.heap := ⟨_, rfl⟩
  have hP : va_P D vwCl [(o, .inr (8, [.ref tx, .ref r, .ref a, .ref r2, .ref a2, .ref x, .ref y, .ref z, .ref v, .ref h, .long sd])), (r, .inr (3, [.ref ro, .ref rn, .ref rr, .int rt, .int fr, .int pr, .int (nI n), .int (nI m)])), (a, .inr (6, [.ref b])), (b, .inl (cI, 36, .inl f)), (h, .inr (2, [.ref a4, .int jr])), (a4, .inr (6, [.ref b4])), (b4, .inl (cI, 36, .inl g4))] H := by rw [hH]; exact hP
  have hS : va_S A sS.heap H [] := by rw [hH]; exact hS
  rw [← hH]
  clear hH
  obtain ⟨locs, hlo⟩ : ∃ q : List Loc, q = [] := ⟨_, rfl⟩
  rw [← hlo] at hS ⊢
  clear hlo
  refine lv_iload_n hx hb dX8_reform_0 rfl (lv_at hl 1 rfl) ?_
  refine z_callSi (As := [.int x1]) (rest := []) Z hP hD hS hl.1 (zc_X8_isKind l D cI cZ x1 ) zm330 zm331 zm30 zm332 zd_X8_isKind ⟨Nat.le_of_ble_eq_true rfl, Nat.le_of_ble_eq_true rfl⟩ ⟨Nat.zero_le _, Nat.zero_le _⟩ [] rfl (by decide) (fun _ => rfl) rfl (Nat.le_of_ble_eq_true rfl) rfl dX8_reform_1 (fun r_1 u H locs h_2 hP hD hS => ?_)
  have hP : va_P D vwCl [(o, .inr (8, [.ref tx, .ref r, .ref a, .ref r2, .ref a2, .ref x, .ref y, .ref z, .ref v, .ref h, .long sd])), (r, .inr (3, [.ref ro, .ref rn, .ref rr, .int rt, .int fr, .int pr, .int (nI n), .int (nI m)])), (a, .inr (6, [.ref b])), (b, .inl (cI, 36, .inl f)), (h, .inr (2, [.ref a4, .int jr])), (a4, .inr (6, [.ref b4])), (b4, .inl (cI, 36, .inl g4))] H := hP
  have hD : va_D A [(o, .inr (8, [.ref tx, .ref r, .ref a, .ref r2, .ref a2, .ref x, .ref y, .ref z, .ref v, .ref h, .long sd])), (r, .inr (3, [.ref ro, .ref rn, .ref rr, .int rt, .int fr, .int pr, .int (nI n), .int (nI m)])), (a, .inr (6, [.ref b])), (b, .inl (cI, 36, .inl f)), (h, .inr (2, [.ref a4, .int jr])), (a4, .inr (6, [.ref b4])), (b4, .inl (cI, 36, .inl g4))] := hD
  have h_2 : r_1 = if zkind x1 then 1 else 0 := h_2
  subst h_2
  refine lv_if_ne (tgt := 10) hx hb dX8_reform_4 (by decide) (fun c_3 => ?_) (fun c_3 => ?_)
  · have c_3 := zb1 c_3
    obtain ⟨k, hk, rfl⟩ := zkind_of c_3
    refine lv_aload_n hx hb dX8_reform_10 rfl (lv_at hl 0 rfl) ?_
    refine z_get (ci := 8) (v := .ref h) Z zin8 hP 0 rfl rfl 9 (by decide) zm183 rfl rfl dX8_reform_11 ?_
    refine lv_aload_n hx hb dX8_reform_14 rfl (lv_at hl 0 rfl) ?_
    refine z_get (ci := 8) (v := .ref r) Z zin8 hP 0 rfl rfl 1 (by decide) zm175 rfl rfl dX8_reform_15 ?_
    refine lv_aload_n hx hb dX8_reform_18 rfl (lv_at hl 0 rfl) ?_
    refine z_get (ci := 8) (v := .ref a) Z zin8 hP 0 rfl rfl 2 (by decide) zm176 rfl rfl dX8_reform_19 ?_
    refine lv_iload_n hx hb dX8_reform_22 rfl (lv_at hl 1 rfl) ?_
    refine z_callVi (As := [.ref r, .ref a, .int (nI k)]) (rest := []) (ci := 2) (k0 := 0) Z hP hD hS hl.1 (zc_X2_nearestLaw l D cI cZ h jr a4 r ro rn rr rt fr pr n m a b f k (by omega) (by omega)) zm512 zm513 zm514 zm38 zm515 ⟨rfl, zd_X2_nearestLaw⟩ ⟨Nat.le_of_ble_eq_true rfl, Nat.le_of_ble_eq_true rfl⟩ ⟨Nat.zero_le _, Nat.zero_le _⟩ [4, 1, 2, 3] rfl (by decide) rfl rfl rfl (fun _ => rfl) rfl (Nat.le_of_ble_eq_true rfl) rfl dX8_reform_23 (fun r_4 u H locs h_5 hP hD hS => ?_)
    have hP : va_P D vwCl [(o, .inr (8, [.ref tx, .ref r, .ref a, .ref r2, .ref a2, .ref x, .ref y, .ref z, .ref v, .ref h, .long sd])), (r, .inr (3, [.ref ro, .ref rn, .ref rr, .int rt, .int fr, .int pr, .int (nI n), .int (nI m)])), (a, .inr (6, [.ref b])), (b, .inl (cI, 36, .inl f)), (h, .inr (2, [.ref a4, .int jr])), (a4, .inr (6, [.ref b4])), (b4, .inl (cI, 36, .inl g4))] H := hP
    have hD : va_D A [(o, .inr (8, [.ref tx, .ref r, .ref a, .ref r2, .ref a2, .ref x, .ref y, .ref z, .ref v, .ref h, .long sd])), (r, .inr (3, [.ref ro, .ref rn, .ref rr, .int rt, .int fr, .int pr, .int (nI n), .int (nI m)])), (a, .inr (6, [.ref b])), (b, .inl (cI, 36, .inl f)), (h, .inr (2, [.ref a4, .int jr])), (a4, .inr (6, [.ref b4])), (b4, .inl (cI, 36, .inl g4))] := hD
    have h_5 : r_4 = (znr f rt fr n k 10).1 := h_5
    subst h_5
    exact z_iret Z () (by first | rw [zKa_n (by assumption)] | rw [zKa_y hk]) hP hS dX8_reform_26
  · have c_3 := zb0 c_3
    refine lv_bipush (v := -2) hx hb dX8_reform_7 (by decide) ?_
    exact z_iret Z () (by first | rw [zKa_n (by assumption)] | rw [zKa_y hk]) hP hS dX8_reform_9

theorem dX8_roll_0 : decode cX8_roll 0 = .ok (.aload_n 0, 1) := by decide +kernel
theorem dX8_roll_1 : decode cX8_roll 1 = .ok (.getfield 19, 3) := by decide +kernel
theorem dX8_roll_4 : decode cX8_roll 4 = .ok (.iload_n 1, 1) := by decide +kernel
theorem dX8_roll_5 : decode cX8_roll 5 = .ok (.invokevirtual 126, 3) := by decide +kernel
theorem dX8_roll_8 : decode cX8_roll 8 = .ok (.ifCond .ne 5, 3) := by decide +kernel
theorem dX8_roll_11 : decode cX8_roll 11 = .ok (.iconst (-1), 1) := by decide +kernel
theorem dX8_roll_12 : decode cX8_roll 12 = .ok (.ireturn, 1) := by decide +kernel
theorem dX8_roll_13 : decode cX8_roll 13 = .ok (.iload_n 2, 1) := by decide +kernel
theorem dX8_roll_14 : decode cX8_roll 14 = .ok (.ifCond .lt 9, 3) := by decide +kernel
theorem dX8_roll_17 : decode cX8_roll 17 = .ok (.iload_n 2, 1) := by decide +kernel
theorem dX8_roll_18 : decode cX8_roll 18 = .ok (.bipush 99, 2) := by decide +kernel
theorem dX8_roll_20 : decode cX8_roll 20 = .ok (.if_icmp .le 6, 3) := by decide +kernel
theorem dX8_roll_23 : decode cX8_roll 23 = .ok (.bipush (-2), 2) := by decide +kernel
theorem dX8_roll_25 : decode cX8_roll 25 = .ok (.ireturn, 1) := by decide +kernel
theorem dX8_roll_26 : decode cX8_roll 26 = .ok (.aload_n 0, 1) := by decide +kernel
theorem dX8_roll_27 : decode cX8_roll 27 = .ok (.getfield 53, 3) := by decide +kernel
theorem dX8_roll_30 : decode cX8_roll 30 = .ok (.invokevirtual 125, 3) := by decide +kernel
theorem dX8_roll_33 : decode cX8_roll 33 = .ok (.bipush 6, 2) := by decide +kernel
theorem dX8_roll_35 : decode cX8_roll 35 = .ok (.if_icmp .lt 6, 3) := by decide +kernel
theorem dX8_roll_38 : decode cX8_roll 38 = .ok (.bipush (-4), 2) := by decide +kernel
theorem dX8_roll_40 : decode cX8_roll 40 = .ok (.ireturn, 1) := by decide +kernel
theorem dX8_roll_41 : decode cX8_roll 41 = .ok (.aload_n 0, 1) := by decide +kernel
theorem dX8_roll_42 : decode cX8_roll 42 = .ok (.getfield 53, 3) := by decide +kernel
theorem dX8_roll_45 : decode cX8_roll 45 = .ok (.iload_n 1, 1) := by decide +kernel
theorem dX8_roll_46 : decode cX8_roll 46 = .ok (.iload_n 2, 1) := by decide +kernel
theorem dX8_roll_47 : decode cX8_roll 47 = .ok (.invokevirtual 216, 3) := by decide +kernel
theorem dX8_roll_50 : decode cX8_roll 50 = .ok (.aload_n 0, 1) := by decide +kernel
theorem dX8_roll_51 : decode cX8_roll 51 = .ok (.getfield 53, 3) := by decide +kernel
theorem dX8_roll_54 : decode cX8_roll 54 = .ok (.invokevirtual 125, 3) := by decide +kernel
theorem dX8_roll_57 : decode cX8_roll 57 = .ok (.ireturn, 1) := by decide +kernel
theorem zd_X8_roll : yX8_roll.cls ≠ "java/lang/invoke/MethodHandle" ∧ yX8_roll.cls ≠ "java/lang/invoke/VarHandle" ∧ (parseMethodDescriptor yX8_roll.desc).map (fun d => d.parameters.length) = some 2 := by decide +kernel
set_option maxHeartbeats 4000000 in
set_option maxRecDepth 100000 in
theorem zc_X8_roll (l : Launch) (D : va_G) (cI cZ : ClassId) (o : Nat) (tx : Nat) (r : Nat) (a : Nat) (r2 : Nat) (a2 : Nat) (x : Nat) (y : Nat) (z : Nat) (v : Nat) (h : Nat) (sd : Int64) (ro : Nat) (rn : Nat) (rr : Nat) (rt : Int32) (fr : Int32) (pr : Int32) (n : Nat) (m : Nat) (zp : Nat) (zd : Nat) (cr : Nat) (ft : Int32) (kd : Int32) (su : Int32) (pw : Nat → Int32) (pd : Nat → Int32) (x1 : Int32) (x2 : Int32) (hn : n ≤ 5) (hcr : cr ≤ 6) : zI l yX8_roll cX8_roll 3 .int 1 22 D cI cZ [.ref o, .int x1, .int x2] [(o, .inr (8, [.ref tx, .ref r, .ref a, .ref r2, .ref a2, .ref x, .ref y, .ref z, .ref v, .ref h, .long sd])), (r, .inr (3, [.ref ro, .ref rn, .ref rr, .int rt, .int fr, .int pr, .int (nI n), .int (nI m)])), (z, .inr (4, [.ref zp, .ref zd, .int (nI cr), .int ft, .int kd, .int su])), (zp, .inl (cI, 6, .inl pw)), (zd, .inl (cI, 6, .inl pd))] (fun (r : Int32) (u : Unit) => r = zPa n x1 (fun p => zRa 0 99 x2 (fun t => if cr < 6 then nI (cr + 1) else -4) (-2)) (-1)) (fun (u : Unit) => [(o, .inr (8, [.ref tx, .ref r, .ref a, .ref r2, .ref a2, .ref x, .ref y, .ref z, .ref v, .ref h, .long sd])), (r, .inr (3, [.ref ro, .ref rn, .ref rr, .int rt, .int fr, .int pr, .int (nI n), .int (nI m)])), (z, .inr (4, [.ref zp, .ref zd, .int (nI (zPa n x1 (fun p => zRa 0 99 x2 (fun t => if cr < 6 then cr + 1 else cr) cr) cr)), .int ft, .int kd, .int su])), (zp, .inl (cI, 6, .inl (zPa n x1 (fun p => zRa 0 99 x2 (fun t => if cr < 6 then upd pw cr (nI p) else pw) pw) pw))), (zd, .inl (cI, 6, .inl (zPa n x1 (fun p => zRa 0 99 x2 (fun t => if cr < 6 then upd pd cr (nI t) else pd) pd) pd)))]) := by
  refine zI_of (by decide) (Nat.le_of_ble_eq_true rfl) ?_
  intro pP eE sS mM aA bB mT cC A ls Z hP hD hS hl
  have hx := Z.1
  have hb := Z.2.1
  have hown := Z.2.2.2.2.2.1
  have hts := Z.2.2.2.2.1
  have Z : zAt pP sS mM aA mT cC D cI cZ A "SurpriseTax" cX8_roll 3 (some .int) := Z
  have hl : lv_has ls 3 [(0, .ref o), (1, .int x1), (2, .int x2)] := hl
  obtain ⟨H, hH⟩ : ∃ H, H = sS.heap := ⟨_, rfl⟩
  have hP : va_P D vwCl [(o, .inr (8, [.ref tx, .ref r, .ref a, .ref r2, .ref a2, .ref x, .ref y, .ref z, .ref v, .ref h, .long sd])), (r, .inr (3, [.ref ro, .ref rn, .ref rr, .int rt, .int fr, .int pr, .int (nI n), .int (nI m)])), (z, .inr (4, [.ref zp, .ref zd, .int (nI cr), .int ft, .int kd, .int su])), (zp, .inl (cI, 6, .inl pw)), (zd, .inl (cI, 6, .inl pd))] H := by rw [hH]; exact hP
  have hS : va_S A sS.heap H [] := by rw [hH]; exact hS
  rw [← hH]
  clear hH
  obtain ⟨locs, hlo⟩ : ∃ q : List Loc, q = [] := ⟨_, rfl⟩
  rw [← hlo] at hS ⊢
  clear hlo
  refine lv_aload_n hx hb dX8_roll_0 rfl (lv_at hl 0 rfl) ?_
  refine z_get (ci := 8) (v := .ref r) Z zin8 hP 0 rfl rfl 1 (by decide) zm175 rfl rfl dX8_roll_1 ?_
  refine lv_iload_n hx hb dX8_roll_4 rfl (lv_at hl 1 rfl) ?_
  refine z_callVi (As := [.int x1]) (rest := []) (ci := 3) (k0 := 0) Z hP hD hS hl.1 (zc_X3_has l D cI cZ r ro rn rr rt fr pr n m x1 ) zm329 zm270 zm271 zm32 zm272 ⟨rfl, zd_X3_has⟩ ⟨Nat.le_of_ble_eq_true rfl, Nat.le_of_ble_eq_true rfl⟩ ⟨Nat.zero_le _, Nat.zero_le _⟩ [1] rfl (by decide) rfl rfl rfl (fun _ => rfl) rfl (Nat.le_of_ble_eq_true rfl) rfl dX8_roll_5 (fun r_1 u H locs h_2 hP hD hS => ?_)
  have hP : va_P D vwCl [(o, .inr (8, [.ref tx, .ref r, .ref a, .ref r2, .ref a2, .ref x, .ref y, .ref z, .ref v, .ref h, .long sd])), (r, .inr (3, [.ref ro, .ref rn, .ref rr, .int rt, .int fr, .int pr, .int (nI n), .int (nI m)])), (z, .inr (4, [.ref zp, .ref zd, .int (nI cr), .int ft, .int kd, .int su])), (zp, .inl (cI, 6, .inl pw)), (zd, .inl (cI, 6, .inl pd))] H := hP
  have hD : va_D A [(o, .inr (8, [.ref tx, .ref r, .ref a, .ref r2, .ref a2, .ref x, .ref y, .ref z, .ref v, .ref h, .long sd])), (r, .inr (3, [.ref ro, .ref rn, .ref rr, .int rt, .int fr, .int pr, .int (nI n), .int (nI m)])), (z, .inr (4, [.ref zp, .ref zd, .int (nI cr), .int ft, .int kd, .int su])), (zp, .inl (cI, 6, .inl pw)), (zd, .inl (cI, 6, .inl pd))] := hD
  have h_2 : r_1 = if zhas n x1 then 1 else 0 := h_2
  subst h_2
  refine lv_if_ne (tgt := 13) hx hb dX8_roll_8 (by decide) (fun c_3 => ?_) (fun c_3 => ?_)
  · have c_3 := zb1 c_3
    obtain ⟨p, hp, rfl⟩ := zhas_of (by omega) c_3
    refine lv_iload_n hx hb dX8_roll_13 rfl (lv_at hl 2 rfl) ?_
    refine lv_if_lt (tgt := 23) hx hb dX8_roll_14 (by decide) (fun c_4 => ?_) (fun c_4 => ?_)
    · have c_4 : x2 < 0 := c_4
      refine lv_bipush (v := -2) hx hb dX8_roll_23 (by decide) ?_
      have e_5 : nI cr = nI (zPa n (nI p) (fun p => zRa 0 99 x2 (fun t => if cr < 6 then cr + 1 else cr) cr) cr) := by first | rw [zPa_n (by assumption)] | (rw [zPa_y hp hn]; first | rw [zRa_lo (by assumption)] | rw [zRa_hi (by assumption)] | (rw [zRa_y ht0 ht (by decide)]; first | rw [if_pos (by assumption)] | rw [if_neg (by omega)]))
      have hP : va_P D vwCl [(o, .inr (8, [.ref tx, .ref r, .ref a, .ref r2, .ref a2, .ref x, .ref y, .ref z, .ref v, .ref h, .long sd])), (r, .inr (3, [.ref ro, .ref rn, .ref rr, .int rt, .int fr, .int pr, .int (nI n), .int (nI m)])), (z, .inr (4, [.ref zp, .ref zd, .int (nI (zPa n (nI p) (fun p => zRa 0 99 x2 (fun t => if cr < 6 then cr + 1 else cr) cr) cr)), .int ft, .int kd, .int su])), (zp, .inl (cI, 6, .inl pw)), (zd, .inl (cI, 6, .inl pd))] H := Eq.subst (motive := fun zz_ => va_P D vwCl [(o, .inr (8, [.ref tx, .ref r, .ref a, .ref r2, .ref a2, .ref x, .ref y, .ref z, .ref v, .ref h, .long sd])), (r, .inr (3, [.ref ro, .ref rn, .ref rr, .int rt, .int fr, .int pr, .int (nI n), .int (nI m)])), (z, .inr (4, [.ref zp, .ref zd, .int zz_, .int ft, .int kd, .int su])), (zp, .inl (cI, 6, .inl pw)), (zd, .inl (cI, 6, .inl pd))] H) e_5 hP
      have e_6 : pw = (zPa n (nI p) (fun p => zRa 0 99 x2 (fun t => if cr < 6 then upd pw cr (nI p) else pw) pw) pw) := by first | rw [zPa_n (by assumption)] | (rw [zPa_y hp hn]; first | rw [zRa_lo (by assumption)] | rw [zRa_hi (by assumption)] | (rw [zRa_y ht0 ht (by decide)]; first | rw [if_pos (by assumption)] | rw [if_neg (by omega)]))
      have hP : va_P D vwCl [(o, .inr (8, [.ref tx, .ref r, .ref a, .ref r2, .ref a2, .ref x, .ref y, .ref z, .ref v, .ref h, .long sd])), (r, .inr (3, [.ref ro, .ref rn, .ref rr, .int rt, .int fr, .int pr, .int (nI n), .int (nI m)])), (z, .inr (4, [.ref zp, .ref zd, .int (nI (zPa n (nI p) (fun p => zRa 0 99 x2 (fun t => if cr < 6 then cr + 1 else cr) cr) cr)), .int ft, .int kd, .int su])), (zp, .inl (cI, 6, .inl (zPa n (nI p) (fun p => zRa 0 99 x2 (fun t => if cr < 6 then upd pw cr (nI p) else pw) pw) pw))), (zd, .inl (cI, 6, .inl pd))] H := Eq.subst (motive := fun zz_ => va_P D vwCl [(o, .inr (8, [.ref tx, .ref r, .ref a, .ref r2, .ref a2, .ref x, .ref y, .ref z, .ref v, .ref h, .long sd])), (r, .inr (3, [.ref ro, .ref rn, .ref rr, .int rt, .int fr, .int pr, .int (nI n), .int (nI m)])), (z, .inr (4, [.ref zp, .ref zd, .int (nI (zPa n (nI p) (fun p => zRa 0 99 x2 (fun t => if cr < 6 then cr + 1 else cr) cr) cr)), .int ft, .int kd, .int su])), (zp, .inl (cI, 6, .inl zz_)), (zd, .inl (cI, 6, .inl pd))] H) e_6 hP
      have e_7 : pd = (zPa n (nI p) (fun p => zRa 0 99 x2 (fun t => if cr < 6 then upd pd cr (nI t) else pd) pd) pd) := by first | rw [zPa_n (by assumption)] | (rw [zPa_y hp hn]; first | rw [zRa_lo (by assumption)] | rw [zRa_hi (by assumption)] | (rw [zRa_y ht0 ht (by decide)]; first | rw [if_pos (by assumption)] | rw [if_neg (by omega)]))
      have hP : va_P D vwCl [(o, .inr (8, [.ref tx, .ref r, .ref a, .ref r2, .ref a2, .ref x, .ref y, .ref z, .ref v, .ref h, .long sd])), (r, .inr (3, [.ref ro, .ref rn, .ref rr, .int rt, .int fr, .int pr, .int (nI n), .int (nI m)])), (z, .inr (4, [.ref zp, .ref zd, .int (nI (zPa n (nI p) (fun p => zRa 0 99 x2 (fun t => if cr < 6 then cr + 1 else cr) cr) cr)), .int ft, .int kd, .int su])), (zp, .inl (cI, 6, .inl (zPa n (nI p) (fun p => zRa 0 99 x2 (fun t => if cr < 6 then upd pw cr (nI p) else pw) pw) pw))), (zd, .inl (cI, 6, .inl (zPa n (nI p) (fun p => zRa 0 99 x2 (fun t => if cr < 6 then upd pd cr (nI t) else pd) pd) pd)))] H := Eq.subst (motive := fun zz_ => va_P D vwCl [(o, .inr (8, [.ref tx, .ref r, .ref a, .ref r2, .ref a2, .ref x, .ref y, .ref z, .ref v, .ref h, .long sd])), (r, .inr (3, [.ref ro, .ref rn, .ref rr, .int rt, .int fr, .int pr, .int (nI n), .int (nI m)])), (z, .inr (4, [.ref zp, .ref zd, .int (nI (zPa n (nI p) (fun p => zRa 0 99 x2 (fun t => if cr < 6 then cr + 1 else cr) cr) cr)), .int ft, .int kd, .int su])), (zp, .inl (cI, 6, .inl (zPa n (nI p) (fun p => zRa 0 99 x2 (fun t => if cr < 6 then upd pw cr (nI p) else pw) pw) pw))), (zd, .inl (cI, 6, .inl zz_))] H) e_7 hP
      have hD : va_D A [(o, .inr (8, [.ref tx, .ref r, .ref a, .ref r2, .ref a2, .ref x, .ref y, .ref z, .ref v, .ref h, .long sd])), (r, .inr (3, [.ref ro, .ref rn, .ref rr, .int rt, .int fr, .int pr, .int (nI n), .int (nI m)])), (z, .inr (4, [.ref zp, .ref zd, .int (nI (zPa n (nI p) (fun p => zRa 0 99 x2 (fun t => if cr < 6 then cr + 1 else cr) cr) cr)), .int ft, .int kd, .int su])), (zp, .inl (cI, 6, .inl (zPa n (nI p) (fun p => zRa 0 99 x2 (fun t => if cr < 6 then upd pw cr (nI p) else pw) pw) pw))), (zd, .inl (cI, 6, .inl (zPa n (nI p) (fun p => zRa 0 99 x2 (fun t => if cr < 6 then upd pd cr (nI t) else pd) pd) pd)))] := zD_of hD rfl
      exact z_iret Z () (by first | rw [zPa_n (by assumption)] | (rw [zPa_y hp hn]; first | rw [zRa_lo (by assumption)] | rw [zRa_hi (by assumption)] | (rw [zRa_y ht0 ht (by decide)]; first | rw [if_pos (by assumption)] | rw [if_neg (by omega)]))) hP hS dX8_roll_25
    · have c_4 : ¬ (x2 < 0) := c_4
      refine lv_iload_n hx hb dX8_roll_17 rfl (lv_at hl 2 rfl) ?_
      refine lv_bipush (v := nI 99) hx hb dX8_roll_18 (by decide) ?_
      refine lv_icmp_le (tgt := 26) hx hb dX8_roll_20 (by decide) (fun c_8 => ?_) (fun c_8 => ?_)
      · have c_8 : x2 ≤ 99 := c_8
        obtain ⟨t, ht0, ht, rfl⟩ := zRa_of (lo := 0) (hi := 99) (by decide) (by decide) (by assumption) (by assumption)
        refine lv_aload_n hx hb dX8_roll_26 rfl (lv_at hl 0 rfl) ?_
        refine z_get (ci := 8) (v := .ref z) Z zin8 hP 0 rfl rfl 7 (by decide) zm181 rfl rfl dX8_roll_27 ?_
        refine z_callVi (As := []) (rest := []) (ci := 4) (k0 := 0) Z hP hD hS hl.1 (zc_X4_count l D cI cZ z zp zd cr ft kd su ) zm321 zm322 zm323 zm36 zm324 ⟨rfl, zd_X4_count⟩ ⟨Nat.le_of_ble_eq_true rfl, Nat.le_of_ble_eq_true rfl⟩ ⟨Nat.zero_le _, Nat.zero_le _⟩ [2] rfl (by decide) rfl rfl rfl (fun _ => rfl) rfl (Nat.le_of_ble_eq_true rfl) rfl dX8_roll_30 (fun r_9 u H locs h_10 hP hD hS => ?_)
        have hP : va_P D vwCl [(o, .inr (8, [.ref tx, .ref r, .ref a, .ref r2, .ref a2, .ref x, .ref y, .ref z, .ref v, .ref h, .long sd])), (r, .inr (3, [.ref ro, .ref rn, .ref rr, .int rt, .int fr, .int pr, .int (nI n), .int (nI m)])), (z, .inr (4, [.ref zp, .ref zd, .int (nI cr), .int ft, .int kd, .int su])), (zp, .inl (cI, 6, .inl pw)), (zd, .inl (cI, 6, .inl pd))] H := hP
        have hD : va_D A [(o, .inr (8, [.ref tx, .ref r, .ref a, .ref r2, .ref a2, .ref x, .ref y, .ref z, .ref v, .ref h, .long sd])), (r, .inr (3, [.ref ro, .ref rn, .ref rr, .int rt, .int fr, .int pr, .int (nI n), .int (nI m)])), (z, .inr (4, [.ref zp, .ref zd, .int (nI cr), .int ft, .int kd, .int su])), (zp, .inl (cI, 6, .inl pw)), (zd, .inl (cI, 6, .inl pd))] := hD
        have h_10 : r_9 = nI cr := h_10
        subst h_10
        refine lv_bipush (v := nI 6) hx hb dX8_roll_33 (by decide) ?_
        refine lv_icmp_lt (tgt := 41) hx hb dX8_roll_35 (by decide) (fun c_11 => ?_) (fun c_11 => ?_)
        · have c_11 := zlt (i := cr) (j := 6) (by omega) (by decide) c_11
          refine lv_aload_n hx hb dX8_roll_41 rfl (lv_at hl 0 rfl) ?_
          refine z_get (ci := 8) (v := .ref z) Z zin8 hP 0 rfl rfl 7 (by decide) zm181 rfl rfl dX8_roll_42 ?_
          refine lv_iload_n hx hb dX8_roll_45 rfl (lv_at hl 1 rfl) ?_
          refine lv_iload_n hx hb dX8_roll_46 rfl (lv_at hl 2 rfl) ?_
          refine z_callVv (As := [.int (nI p), .int (nI t)]) (rest := []) (ci := 4) (k0 := 0) Z hP hD hS hl.1 (zc_X4_add l D cI cZ z zp zd cr ft kd su pw pd (nI p) (nI t) (by omega)) zm527 zm528 zm529 zm36 zm530 ⟨rfl, zd_X4_add⟩ ⟨Nat.le_of_ble_eq_true rfl, Nat.le_of_ble_eq_true rfl⟩ ⟨Nat.zero_le _, Nat.zero_le _⟩ [2, 3, 4] rfl (by decide) rfl rfl rfl (fun _ => rfl) rfl (Nat.le_of_ble_eq_true rfl) rfl dX8_roll_47 (fun u H locs h_13 hP hD hS => ?_)
          have hP : va_P D vwCl [(o, .inr (8, [.ref tx, .ref r, .ref a, .ref r2, .ref a2, .ref x, .ref y, .ref z, .ref v, .ref h, .long sd])), (r, .inr (3, [.ref ro, .ref rn, .ref rr, .int rt, .int fr, .int pr, .int (nI n), .int (nI m)])), (z, .inr (4, [.ref zp, .ref zd, .int (nI (cr + 1)), .int ft, .int kd, .int su])), (zp, .inl (cI, 6, .inl (upd pw cr (nI p)))), (zd, .inl (cI, 6, .inl (upd pd cr (nI t))))] H := hP
          have hD : va_D A [(o, .inr (8, [.ref tx, .ref r, .ref a, .ref r2, .ref a2, .ref x, .ref y, .ref z, .ref v, .ref h, .long sd])), (r, .inr (3, [.ref ro, .ref rn, .ref rr, .int rt, .int fr, .int pr, .int (nI n), .int (nI m)])), (z, .inr (4, [.ref zp, .ref zd, .int (nI (cr + 1)), .int ft, .int kd, .int su])), (zp, .inl (cI, 6, .inl (upd pw cr (nI p)))), (zd, .inl (cI, 6, .inl (upd pd cr (nI t))))] := hD
          refine lv_aload_n hx hb dX8_roll_50 rfl (lv_at hl 0 rfl) ?_
          refine z_get (ci := 8) (v := .ref z) Z zin8 hP 0 rfl rfl 7 (by decide) zm181 rfl rfl dX8_roll_51 ?_
          refine z_callVi (As := []) (rest := []) (ci := 4) (k0 := 0) Z hP hD hS hl.1 (zc_X4_count l D cI cZ z zp zd (cr + 1) ft kd su ) zm321 zm322 zm323 zm36 zm324 ⟨rfl, zd_X4_count⟩ ⟨Nat.le_of_ble_eq_true rfl, Nat.le_of_ble_eq_true rfl⟩ ⟨Nat.zero_le _, Nat.zero_le _⟩ [2] rfl (by decide) rfl rfl rfl (fun _ => rfl) rfl (Nat.le_of_ble_eq_true rfl) rfl dX8_roll_54 (fun r_14 u H locs h_15 hP hD hS => ?_)
          have hP : va_P D vwCl [(o, .inr (8, [.ref tx, .ref r, .ref a, .ref r2, .ref a2, .ref x, .ref y, .ref z, .ref v, .ref h, .long sd])), (r, .inr (3, [.ref ro, .ref rn, .ref rr, .int rt, .int fr, .int pr, .int (nI n), .int (nI m)])), (z, .inr (4, [.ref zp, .ref zd, .int (nI (cr + 1)), .int ft, .int kd, .int su])), (zp, .inl (cI, 6, .inl (upd pw cr (nI p)))), (zd, .inl (cI, 6, .inl (upd pd cr (nI t))))] H := hP
          have hD : va_D A [(o, .inr (8, [.ref tx, .ref r, .ref a, .ref r2, .ref a2, .ref x, .ref y, .ref z, .ref v, .ref h, .long sd])), (r, .inr (3, [.ref ro, .ref rn, .ref rr, .int rt, .int fr, .int pr, .int (nI n), .int (nI m)])), (z, .inr (4, [.ref zp, .ref zd, .int (nI (cr + 1)), .int ft, .int kd, .int su])), (zp, .inl (cI, 6, .inl (upd pw cr (nI p)))), (zd, .inl (cI, 6, .inl (upd pd cr (nI t))))] := hD
          have h_15 : r_14 = nI (cr + 1) := h_15
          subst h_15
          have e_16 : nI (cr + 1) = nI (zPa n (nI p) (fun p => zRa 0 99 (nI t) (fun t => if cr < 6 then cr + 1 else cr) cr) cr) := by first | rw [zPa_n (by assumption)] | (rw [zPa_y hp hn]; first | rw [zRa_lo (by assumption)] | rw [zRa_hi (by assumption)] | (rw [zRa_y ht0 ht (by decide)]; first | rw [if_pos (by assumption)] | rw [if_neg (by omega)]))
          have hP : va_P D vwCl [(o, .inr (8, [.ref tx, .ref r, .ref a, .ref r2, .ref a2, .ref x, .ref y, .ref z, .ref v, .ref h, .long sd])), (r, .inr (3, [.ref ro, .ref rn, .ref rr, .int rt, .int fr, .int pr, .int (nI n), .int (nI m)])), (z, .inr (4, [.ref zp, .ref zd, .int (nI (zPa n (nI p) (fun p => zRa 0 99 (nI t) (fun t => if cr < 6 then cr + 1 else cr) cr) cr)), .int ft, .int kd, .int su])), (zp, .inl (cI, 6, .inl (upd pw cr (nI p)))), (zd, .inl (cI, 6, .inl (upd pd cr (nI t))))] H := Eq.subst (motive := fun zz_ => va_P D vwCl [(o, .inr (8, [.ref tx, .ref r, .ref a, .ref r2, .ref a2, .ref x, .ref y, .ref z, .ref v, .ref h, .long sd])), (r, .inr (3, [.ref ro, .ref rn, .ref rr, .int rt, .int fr, .int pr, .int (nI n), .int (nI m)])), (z, .inr (4, [.ref zp, .ref zd, .int zz_, .int ft, .int kd, .int su])), (zp, .inl (cI, 6, .inl (upd pw cr (nI p)))), (zd, .inl (cI, 6, .inl (upd pd cr (nI t))))] H) e_16 hP
          have e_17 : upd pw cr (nI p) = (zPa n (nI p) (fun p => zRa 0 99 (nI t) (fun t => if cr < 6 then upd pw cr (nI p) else pw) pw) pw) := by first | rw [zPa_n (by assumption)] | (rw [zPa_y hp hn]; first | rw [zRa_lo (by assumption)] | rw [zRa_hi (by assumption)] | (rw [zRa_y ht0 ht (by decide)]; first | rw [if_pos (by assumption)] | rw [if_neg (by omega)]))
          have hP : va_P D vwCl [(o, .inr (8, [.ref tx, .ref r, .ref a, .ref r2, .ref a2, .ref x, .ref y, .ref z, .ref v, .ref h, .long sd])), (r, .inr (3, [.ref ro, .ref rn, .ref rr, .int rt, .int fr, .int pr, .int (nI n), .int (nI m)])), (z, .inr (4, [.ref zp, .ref zd, .int (nI (zPa n (nI p) (fun p => zRa 0 99 (nI t) (fun t => if cr < 6 then cr + 1 else cr) cr) cr)), .int ft, .int kd, .int su])), (zp, .inl (cI, 6, .inl (zPa n (nI p) (fun p => zRa 0 99 (nI t) (fun t => if cr < 6 then upd pw cr (nI p) else pw) pw) pw))), (zd, .inl (cI, 6, .inl (upd pd cr (nI t))))] H := Eq.subst (motive := fun zz_ => va_P D vwCl [(o, .inr (8, [.ref tx, .ref r, .ref a, .ref r2, .ref a2, .ref x, .ref y, .ref z, .ref v, .ref h, .long sd])), (r, .inr (3, [.ref ro, .ref rn, .ref rr, .int rt, .int fr, .int pr, .int (nI n), .int (nI m)])), (z, .inr (4, [.ref zp, .ref zd, .int (nI (zPa n (nI p) (fun p => zRa 0 99 (nI t) (fun t => if cr < 6 then cr + 1 else cr) cr) cr)), .int ft, .int kd, .int su])), (zp, .inl (cI, 6, .inl zz_)), (zd, .inl (cI, 6, .inl (upd pd cr (nI t))))] H) e_17 hP
          have e_18 : upd pd cr (nI t) = (zPa n (nI p) (fun p => zRa 0 99 (nI t) (fun t => if cr < 6 then upd pd cr (nI t) else pd) pd) pd) := by first | rw [zPa_n (by assumption)] | (rw [zPa_y hp hn]; first | rw [zRa_lo (by assumption)] | rw [zRa_hi (by assumption)] | (rw [zRa_y ht0 ht (by decide)]; first | rw [if_pos (by assumption)] | rw [if_neg (by omega)]))
          have hP : va_P D vwCl [(o, .inr (8, [.ref tx, .ref r, .ref a, .ref r2, .ref a2, .ref x, .ref y, .ref z, .ref v, .ref h, .long sd])), (r, .inr (3, [.ref ro, .ref rn, .ref rr, .int rt, .int fr, .int pr, .int (nI n), .int (nI m)])), (z, .inr (4, [.ref zp, .ref zd, .int (nI (zPa n (nI p) (fun p => zRa 0 99 (nI t) (fun t => if cr < 6 then cr + 1 else cr) cr) cr)), .int ft, .int kd, .int su])), (zp, .inl (cI, 6, .inl (zPa n (nI p) (fun p => zRa 0 99 (nI t) (fun t => if cr < 6 then upd pw cr (nI p) else pw) pw) pw))), (zd, .inl (cI, 6, .inl (zPa n (nI p) (fun p => zRa 0 99 (nI t) (fun t => if cr < 6 then upd pd cr (nI t) else pd) pd) pd)))] H := Eq.subst (motive := fun zz_ => va_P D vwCl [(o, .inr (8, [.ref tx, .ref r, .ref a, .ref r2, .ref a2, .ref x, .ref y, .ref z, .ref v, .ref h, .long sd])), (r, .inr (3, [.ref ro, .ref rn, .ref rr, .int rt, .int fr, .int pr, .int (nI n), .int (nI m)])), (z, .inr (4, [.ref zp, .ref zd, .int (nI (zPa n (nI p) (fun p => zRa 0 99 (nI t) (fun t => if cr < 6 then cr + 1 else cr) cr) cr)), .int ft, .int kd, .int su])), (zp, .inl (cI, 6, .inl (zPa n (nI p) (fun p => zRa 0 99 (nI t) (fun t => if cr < 6 then upd pw cr (nI p) else pw) pw) pw))), (zd, .inl (cI, 6, .inl zz_))] H) e_18 hP
          have hD : va_D A [(o, .inr (8, [.ref tx, .ref r, .ref a, .ref r2, .ref a2, .ref x, .ref y, .ref z, .ref v, .ref h, .long sd])), (r, .inr (3, [.ref ro, .ref rn, .ref rr, .int rt, .int fr, .int pr, .int (nI n), .int (nI m)])), (z, .inr (4, [.ref zp, .ref zd, .int (nI (zPa n (nI p) (fun p => zRa 0 99 (nI t) (fun t => if cr < 6 then cr + 1 else cr) cr) cr)), .int ft, .int kd, .int su])), (zp, .inl (cI, 6, .inl (zPa n (nI p) (fun p => zRa 0 99 (nI t) (fun t => if cr < 6 then upd pw cr (nI p) else pw) pw) pw))), (zd, .inl (cI, 6, .inl (zPa n (nI p) (fun p => zRa 0 99 (nI t) (fun t => if cr < 6 then upd pd cr (nI t) else pd) pd) pd)))] := zD_of hD rfl
          exact z_iret Z () (by first | rw [zPa_n (by assumption)] | (rw [zPa_y hp hn]; first | rw [zRa_lo (by assumption)] | rw [zRa_hi (by assumption)] | (rw [zRa_y ht0 ht (by decide)]; first | rw [if_pos (by assumption)] | rw [if_neg (by omega)]))) hP hS dX8_roll_57
        · have c_11 := znlt (i := cr) (j := 6) (by omega) (by decide) c_11
          refine lv_bipush (v := -4) hx hb dX8_roll_38 (by decide) ?_
          have e_19 : nI cr = nI (zPa n (nI p) (fun p => zRa 0 99 (nI t) (fun t => if cr < 6 then cr + 1 else cr) cr) cr) := by first | rw [zPa_n (by assumption)] | (rw [zPa_y hp hn]; first | rw [zRa_lo (by assumption)] | rw [zRa_hi (by assumption)] | (rw [zRa_y ht0 ht (by decide)]; first | rw [if_pos (by assumption)] | rw [if_neg (by omega)]))
          have hP : va_P D vwCl [(o, .inr (8, [.ref tx, .ref r, .ref a, .ref r2, .ref a2, .ref x, .ref y, .ref z, .ref v, .ref h, .long sd])), (r, .inr (3, [.ref ro, .ref rn, .ref rr, .int rt, .int fr, .int pr, .int (nI n), .int (nI m)])), (z, .inr (4, [.ref zp, .ref zd, .int (nI (zPa n (nI p) (fun p => zRa 0 99 (nI t) (fun t => if cr < 6 then cr + 1 else cr) cr) cr)), .int ft, .int kd, .int su])), (zp, .inl (cI, 6, .inl pw)), (zd, .inl (cI, 6, .inl pd))] H := Eq.subst (motive := fun zz_ => va_P D vwCl [(o, .inr (8, [.ref tx, .ref r, .ref a, .ref r2, .ref a2, .ref x, .ref y, .ref z, .ref v, .ref h, .long sd])), (r, .inr (3, [.ref ro, .ref rn, .ref rr, .int rt, .int fr, .int pr, .int (nI n), .int (nI m)])), (z, .inr (4, [.ref zp, .ref zd, .int zz_, .int ft, .int kd, .int su])), (zp, .inl (cI, 6, .inl pw)), (zd, .inl (cI, 6, .inl pd))] H) e_19 hP
          have e_20 : pw = (zPa n (nI p) (fun p => zRa 0 99 (nI t) (fun t => if cr < 6 then upd pw cr (nI p) else pw) pw) pw) := by first | rw [zPa_n (by assumption)] | (rw [zPa_y hp hn]; first | rw [zRa_lo (by assumption)] | rw [zRa_hi (by assumption)] | (rw [zRa_y ht0 ht (by decide)]; first | rw [if_pos (by assumption)] | rw [if_neg (by omega)]))
          have hP : va_P D vwCl [(o, .inr (8, [.ref tx, .ref r, .ref a, .ref r2, .ref a2, .ref x, .ref y, .ref z, .ref v, .ref h, .long sd])), (r, .inr (3, [.ref ro, .ref rn, .ref rr, .int rt, .int fr, .int pr, .int (nI n), .int (nI m)])), (z, .inr (4, [.ref zp, .ref zd, .int (nI (zPa n (nI p) (fun p => zRa 0 99 (nI t) (fun t => if cr < 6 then cr + 1 else cr) cr) cr)), .int ft, .int kd, .int su])), (zp, .inl (cI, 6, .inl (zPa n (nI p) (fun p => zRa 0 99 (nI t) (fun t => if cr < 6 then upd pw cr (nI p) else pw) pw) pw))), (zd, .inl (cI, 6, .inl pd))] H := Eq.subst (motive := fun zz_ => va_P D vwCl [(o, .inr (8, [.ref tx, .ref r, .ref a, .ref r2, .ref a2, .ref x, .ref y, .ref z, .ref v, .ref h, .long sd])), (r, .inr (3, [.ref ro, .ref rn, .ref rr, .int rt, .int fr, .int pr, .int (nI n), .int (nI m)])), (z, .inr (4, [.ref zp, .ref zd, .int (nI (zPa n (nI p) (fun p => zRa 0 99 (nI t) (fun t => if cr < 6 then cr + 1 else cr) cr) cr)), .int ft, .int kd, .int su])), (zp, .inl (cI, 6, .inl zz_)), (zd, .inl (cI, 6, .inl pd))] H) e_20 hP
          have e_21 : pd = (zPa n (nI p) (fun p => zRa 0 99 (nI t) (fun t => if cr < 6 then upd pd cr (nI t) else pd) pd) pd) := by first | rw [zPa_n (by assumption)] | (rw [zPa_y hp hn]; first | rw [zRa_lo (by assumption)] | rw [zRa_hi (by assumption)] | (rw [zRa_y ht0 ht (by decide)]; first | rw [if_pos (by assumption)] | rw [if_neg (by omega)]))
          have hP : va_P D vwCl [(o, .inr (8, [.ref tx, .ref r, .ref a, .ref r2, .ref a2, .ref x, .ref y, .ref z, .ref v, .ref h, .long sd])), (r, .inr (3, [.ref ro, .ref rn, .ref rr, .int rt, .int fr, .int pr, .int (nI n), .int (nI m)])), (z, .inr (4, [.ref zp, .ref zd, .int (nI (zPa n (nI p) (fun p => zRa 0 99 (nI t) (fun t => if cr < 6 then cr + 1 else cr) cr) cr)), .int ft, .int kd, .int su])), (zp, .inl (cI, 6, .inl (zPa n (nI p) (fun p => zRa 0 99 (nI t) (fun t => if cr < 6 then upd pw cr (nI p) else pw) pw) pw))), (zd, .inl (cI, 6, .inl (zPa n (nI p) (fun p => zRa 0 99 (nI t) (fun t => if cr < 6 then upd pd cr (nI t) else pd) pd) pd)))] H := Eq.subst (motive := fun zz_ => va_P D vwCl [(o, .inr (8, [.ref tx, .ref r, .ref a, .ref r2, .ref a2, .ref x, .ref y, .ref z, .ref v, .ref h, .long sd])), (r, .inr (3, [.ref ro, .ref rn, .ref rr, .int rt, .int fr, .int pr, .int (nI n), .int (nI m)])), (z, .inr (4, [.ref zp, .ref zd, .int (nI (zPa n (nI p) (fun p => zRa 0 99 (nI t) (fun t => if cr < 6 then cr + 1 else cr) cr) cr)), .int ft, .int kd, .int su])), (zp, .inl (cI, 6, .inl (zPa n (nI p) (fun p => zRa 0 99 (nI t) (fun t => if cr < 6 then upd pw cr (nI p) else pw) pw) pw))), (zd, .inl (cI, 6, .inl zz_))] H) e_21 hP
          have hD : va_D A [(o, .inr (8, [.ref tx, .ref r, .ref a, .ref r2, .ref a2, .ref x, .ref y, .ref z, .ref v, .ref h, .long sd])), (r, .inr (3, [.ref ro, .ref rn, .ref rr, .int rt, .int fr, .int pr, .int (nI n), .int (nI m)])), (z, .inr (4, [.ref zp, .ref zd, .int (nI (zPa n (nI p) (fun p => zRa 0 99 (nI t) (fun t => if cr < 6 then cr + 1 else cr) cr) cr)), .int ft, .int kd, .int su])), (zp, .inl (cI, 6, .inl (zPa n (nI p) (fun p => zRa 0 99 (nI t) (fun t => if cr < 6 then upd pw cr (nI p) else pw) pw) pw))), (zd, .inl (cI, 6, .inl (zPa n (nI p) (fun p => zRa 0 99 (nI t) (fun t => if cr < 6 then upd pd cr (nI t) else pd) pd) pd)))] := zD_of hD rfl
          exact z_iret Z () (by first | rw [zPa_n (by assumption)] | (rw [zPa_y hp hn]; first | rw [zRa_lo (by assumption)] | rw [zRa_hi (by assumption)] | (rw [zRa_y ht0 ht (by decide)]; first | rw [if_pos (by assumption)] | rw [if_neg (by omega)]))) hP hS dX8_roll_40
      · have c_8 : ¬ (x2 ≤ 99) := c_8
        refine lv_bipush (v := -2) hx hb dX8_roll_23 (by decide) ?_
        have e_22 : nI cr = nI (zPa n (nI p) (fun p => zRa 0 99 x2 (fun t => if cr < 6 then cr + 1 else cr) cr) cr) := by first | rw [zPa_n (by assumption)] | (rw [zPa_y hp hn]; first | rw [zRa_lo (by assumption)] | rw [zRa_hi (by assumption)] | (rw [zRa_y ht0 ht (by decide)]; first | rw [if_pos (by assumption)] | rw [if_neg (by omega)]))
        have hP : va_P D vwCl [(o, .inr (8, [.ref tx, .ref r, .ref a, .ref r2, .ref a2, .ref x, .ref y, .ref z, .ref v, .ref h, .long sd])), (r, .inr (3, [.ref ro, .ref rn, .ref rr, .int rt, .int fr, .int pr, .int (nI n), .int (nI m)])), (z, .inr (4, [.ref zp, .ref zd, .int (nI (zPa n (nI p) (fun p => zRa 0 99 x2 (fun t => if cr < 6 then cr + 1 else cr) cr) cr)), .int ft, .int kd, .int su])), (zp, .inl (cI, 6, .inl pw)), (zd, .inl (cI, 6, .inl pd))] H := Eq.subst (motive := fun zz_ => va_P D vwCl [(o, .inr (8, [.ref tx, .ref r, .ref a, .ref r2, .ref a2, .ref x, .ref y, .ref z, .ref v, .ref h, .long sd])), (r, .inr (3, [.ref ro, .ref rn, .ref rr, .int rt, .int fr, .int pr, .int (nI n), .int (nI m)])), (z, .inr (4, [.ref zp, .ref zd, .int zz_, .int ft, .int kd, .int su])), (zp, .inl (cI, 6, .inl pw)), (zd, .inl (cI, 6, .inl pd))] H) e_22 hP
        have e_23 : pw = (zPa n (nI p) (fun p => zRa 0 99 x2 (fun t => if cr < 6 then upd pw cr (nI p) else pw) pw) pw) := by first | rw [zPa_n (by assumption)] | (rw [zPa_y hp hn]; first | rw [zRa_lo (by assumption)] | rw [zRa_hi (by assumption)] | (rw [zRa_y ht0 ht (by decide)]; first | rw [if_pos (by assumption)] | rw [if_neg (by omega)]))
        have hP : va_P D vwCl [(o, .inr (8, [.ref tx, .ref r, .ref a, .ref r2, .ref a2, .ref x, .ref y, .ref z, .ref v, .ref h, .long sd])), (r, .inr (3, [.ref ro, .ref rn, .ref rr, .int rt, .int fr, .int pr, .int (nI n), .int (nI m)])), (z, .inr (4, [.ref zp, .ref zd, .int (nI (zPa n (nI p) (fun p => zRa 0 99 x2 (fun t => if cr < 6 then cr + 1 else cr) cr) cr)), .int ft, .int kd, .int su])), (zp, .inl (cI, 6, .inl (zPa n (nI p) (fun p => zRa 0 99 x2 (fun t => if cr < 6 then upd pw cr (nI p) else pw) pw) pw))), (zd, .inl (cI, 6, .inl pd))] H := Eq.subst (motive := fun zz_ => va_P D vwCl [(o, .inr (8, [.ref tx, .ref r, .ref a, .ref r2, .ref a2, .ref x, .ref y, .ref z, .ref v, .ref h, .long sd])), (r, .inr (3, [.ref ro, .ref rn, .ref rr, .int rt, .int fr, .int pr, .int (nI n), .int (nI m)])), (z, .inr (4, [.ref zp, .ref zd, .int (nI (zPa n (nI p) (fun p => zRa 0 99 x2 (fun t => if cr < 6 then cr + 1 else cr) cr) cr)), .int ft, .int kd, .int su])), (zp, .inl (cI, 6, .inl zz_)), (zd, .inl (cI, 6, .inl pd))] H) e_23 hP
        have e_24 : pd = (zPa n (nI p) (fun p => zRa 0 99 x2 (fun t => if cr < 6 then upd pd cr (nI t) else pd) pd) pd) := by first | rw [zPa_n (by assumption)] | (rw [zPa_y hp hn]; first | rw [zRa_lo (by assumption)] | rw [zRa_hi (by assumption)] | (rw [zRa_y ht0 ht (by decide)]; first | rw [if_pos (by assumption)] | rw [if_neg (by omega)]))
        have hP : va_P D vwCl [(o, .inr (8, [.ref tx, .ref r, .ref a, .ref r2, .ref a2, .ref x, .ref y, .ref z, .ref v, .ref h, .long sd])), (r, .inr (3, [.ref ro, .ref rn, .ref rr, .int rt, .int fr, .int pr, .int (nI n), .int (nI m)])), (z, .inr (4, [.ref zp, .ref zd, .int (nI (zPa n (nI p) (fun p => zRa 0 99 x2 (fun t => if cr < 6 then cr + 1 else cr) cr) cr)), .int ft, .int kd, .int su])), (zp, .inl (cI, 6, .inl (zPa n (nI p) (fun p => zRa 0 99 x2 (fun t => if cr < 6 then upd pw cr (nI p) else pw) pw) pw))), (zd, .inl (cI, 6, .inl (zPa n (nI p) (fun p => zRa 0 99 x2 (fun t => if cr < 6 then upd pd cr (nI t) else pd) pd) pd)))] H := Eq.subst (motive := fun zz_ => va_P D vwCl [(o, .inr (8, [.ref tx, .ref r, .ref a, .ref r2, .ref a2, .ref x, .ref y, .ref z, .ref v, .ref h, .long sd])), (r, .inr (3, [.ref ro, .ref rn, .ref rr, .int rt, .int fr, .int pr, .int (nI n), .int (nI m)])), (z, .inr (4, [.ref zp, .ref zd, .int (nI (zPa n (nI p) (fun p => zRa 0 99 x2 (fun t => if cr < 6 then cr + 1 else cr) cr) cr)), .int ft, .int kd, .int su])), (zp, .inl (cI, 6, .inl (zPa n (nI p) (fun p => zRa 0 99 x2 (fun t => if cr < 6 then upd pw cr (nI p) else pw) pw) pw))), (zd, .inl (cI, 6, .inl zz_))] H) e_24 hP
        have hD : va_D A [(o, .inr (8, [.ref tx, .ref r, .ref a, .ref r2, .ref a2, .ref x, .ref y, .ref z, .ref v, .ref h, .long sd])), (r, .inr (3, [.ref ro, .ref rn, .ref rr, .int rt, .int fr, .int pr, .int (nI n), .int (nI m)])), (z, .inr (4, [.ref zp, .ref zd, .int (nI (zPa n (nI p) (fun p => zRa 0 99 x2 (fun t => if cr < 6 then cr + 1 else cr) cr) cr)), .int ft, .int kd, .int su])), (zp, .inl (cI, 6, .inl (zPa n (nI p) (fun p => zRa 0 99 x2 (fun t => if cr < 6 then upd pw cr (nI p) else pw) pw) pw))), (zd, .inl (cI, 6, .inl (zPa n (nI p) (fun p => zRa 0 99 x2 (fun t => if cr < 6 then upd pd cr (nI t) else pd) pd) pd)))] := zD_of hD rfl
        exact z_iret Z () (by first | rw [zPa_n (by assumption)] | (rw [zPa_y hp hn]; first | rw [zRa_lo (by assumption)] | rw [zRa_hi (by assumption)] | (rw [zRa_y ht0 ht (by decide)]; first | rw [if_pos (by assumption)] | rw [if_neg (by omega)]))) hP hS dX8_roll_25
  · have c_3 := zb0 c_3
    refine lv_iconst (v := -1) hx hb dX8_roll_11 (by decide) ?_
    have e_25 : nI cr = nI (zPa n x1 (fun p => zRa 0 99 x2 (fun t => if cr < 6 then cr + 1 else cr) cr) cr) := by first | rw [zPa_n (by assumption)] | (rw [zPa_y hp hn]; first | rw [zRa_lo (by assumption)] | rw [zRa_hi (by assumption)] | (rw [zRa_y ht0 ht (by decide)]; first | rw [if_pos (by assumption)] | rw [if_neg (by omega)]))
    have hP : va_P D vwCl [(o, .inr (8, [.ref tx, .ref r, .ref a, .ref r2, .ref a2, .ref x, .ref y, .ref z, .ref v, .ref h, .long sd])), (r, .inr (3, [.ref ro, .ref rn, .ref rr, .int rt, .int fr, .int pr, .int (nI n), .int (nI m)])), (z, .inr (4, [.ref zp, .ref zd, .int (nI (zPa n x1 (fun p => zRa 0 99 x2 (fun t => if cr < 6 then cr + 1 else cr) cr) cr)), .int ft, .int kd, .int su])), (zp, .inl (cI, 6, .inl pw)), (zd, .inl (cI, 6, .inl pd))] H := Eq.subst (motive := fun zz_ => va_P D vwCl [(o, .inr (8, [.ref tx, .ref r, .ref a, .ref r2, .ref a2, .ref x, .ref y, .ref z, .ref v, .ref h, .long sd])), (r, .inr (3, [.ref ro, .ref rn, .ref rr, .int rt, .int fr, .int pr, .int (nI n), .int (nI m)])), (z, .inr (4, [.ref zp, .ref zd, .int zz_, .int ft, .int kd, .int su])), (zp, .inl (cI, 6, .inl pw)), (zd, .inl (cI, 6, .inl pd))] H) e_25 hP
    have e_26 : pw = (zPa n x1 (fun p => zRa 0 99 x2 (fun t => if cr < 6 then upd pw cr (nI p) else pw) pw) pw) := by first | rw [zPa_n (by assumption)] | (rw [zPa_y hp hn]; first | rw [zRa_lo (by assumption)] | rw [zRa_hi (by assumption)] | (rw [zRa_y ht0 ht (by decide)]; first | rw [if_pos (by assumption)] | rw [if_neg (by omega)]))
    have hP : va_P D vwCl [(o, .inr (8, [.ref tx, .ref r, .ref a, .ref r2, .ref a2, .ref x, .ref y, .ref z, .ref v, .ref h, .long sd])), (r, .inr (3, [.ref ro, .ref rn, .ref rr, .int rt, .int fr, .int pr, .int (nI n), .int (nI m)])), (z, .inr (4, [.ref zp, .ref zd, .int (nI (zPa n x1 (fun p => zRa 0 99 x2 (fun t => if cr < 6 then cr + 1 else cr) cr) cr)), .int ft, .int kd, .int su])), (zp, .inl (cI, 6, .inl (zPa n x1 (fun p => zRa 0 99 x2 (fun t => if cr < 6 then upd pw cr (nI p) else pw) pw) pw))), (zd, .inl (cI, 6, .inl pd))] H := Eq.subst (motive := fun zz_ => va_P D vwCl [(o, .inr (8, [.ref tx, .ref r, .ref a, .ref r2, .ref a2, .ref x, .ref y, .ref z, .ref v, .ref h, .long sd])), (r, .inr (3, [.ref ro, .ref rn, .ref rr, .int rt, .int fr, .int pr, .int (nI n), .int (nI m)])), (z, .inr (4, [.ref zp, .ref zd, .int (nI (zPa n x1 (fun p => zRa 0 99 x2 (fun t => if cr < 6 then cr + 1 else cr) cr) cr)), .int ft, .int kd, .int su])), (zp, .inl (cI, 6, .inl zz_)), (zd, .inl (cI, 6, .inl pd))] H) e_26 hP
    have e_27 : pd = (zPa n x1 (fun p => zRa 0 99 x2 (fun t => if cr < 6 then upd pd cr (nI t) else pd) pd) pd) := by first | rw [zPa_n (by assumption)] | (rw [zPa_y hp hn]; first | rw [zRa_lo (by assumption)] | rw [zRa_hi (by assumption)] | (rw [zRa_y ht0 ht (by decide)]; first | rw [if_pos (by assumption)] | rw [if_neg (by omega)]))
    have hP : va_P D vwCl [(o, .inr (8, [.ref tx, .ref r, .ref a, .ref r2, .ref a2, .ref x, .ref y, .ref z, .ref v, .ref h, .long sd])), (r, .inr (3, [.ref ro, .ref rn, .ref rr, .int rt, .int fr, .int pr, .int (nI n), .int (nI m)])), (z, .inr (4, [.ref zp, .ref zd, .int (nI (zPa n x1 (fun p => zRa 0 99 x2 (fun t => if cr < 6 then cr + 1 else cr) cr) cr)), .int ft, .int kd, .int su])), (zp, .inl (cI, 6, .inl (zPa n x1 (fun p => zRa 0 99 x2 (fun t => if cr < 6 then upd pw cr (nI p) else pw) pw) pw))), (zd, .inl (cI, 6, .inl (zPa n x1 (fun p => zRa 0 99 x2 (fun t => if cr < 6 then upd pd cr (nI t) else pd) pd) pd)))] H := Eq.subst (motive := fun zz_ => va_P D vwCl [(o, .inr (8, [.ref tx, .ref r, .ref a, .ref r2, .ref a2, .ref x, .ref y, .ref z, .ref v, .ref h, .long sd])), (r, .inr (3, [.ref ro, .ref rn, .ref rr, .int rt, .int fr, .int pr, .int (nI n), .int (nI m)])), (z, .inr (4, [.ref zp, .ref zd, .int (nI (zPa n x1 (fun p => zRa 0 99 x2 (fun t => if cr < 6 then cr + 1 else cr) cr) cr)), .int ft, .int kd, .int su])), (zp, .inl (cI, 6, .inl (zPa n x1 (fun p => zRa 0 99 x2 (fun t => if cr < 6 then upd pw cr (nI p) else pw) pw) pw))), (zd, .inl (cI, 6, .inl zz_))] H) e_27 hP
    have hD : va_D A [(o, .inr (8, [.ref tx, .ref r, .ref a, .ref r2, .ref a2, .ref x, .ref y, .ref z, .ref v, .ref h, .long sd])), (r, .inr (3, [.ref ro, .ref rn, .ref rr, .int rt, .int fr, .int pr, .int (nI n), .int (nI m)])), (z, .inr (4, [.ref zp, .ref zd, .int (nI (zPa n x1 (fun p => zRa 0 99 x2 (fun t => if cr < 6 then cr + 1 else cr) cr) cr)), .int ft, .int kd, .int su])), (zp, .inl (cI, 6, .inl (zPa n x1 (fun p => zRa 0 99 x2 (fun t => if cr < 6 then upd pw cr (nI p) else pw) pw) pw))), (zd, .inl (cI, 6, .inl (zPa n x1 (fun p => zRa 0 99 x2 (fun t => if cr < 6 then upd pd cr (nI t) else pd) pd) pd)))] := zD_of hD rfl
    exact z_iret Z () (by first | rw [zPa_n (by assumption)] | (rw [zPa_y hp hn]; first | rw [zRa_lo (by assumption)] | rw [zRa_hi (by assumption)] | (rw [zRa_y ht0 ht (by decide)]; first | rw [if_pos (by assumption)] | rw [if_neg (by omega)]))) hP hS dX8_roll_12

theorem dX8_unroll_0 : decode cX8_unroll 0 = .ok (.aload_n 0, 1) := by decide +kernel
theorem dX8_unroll_1 : decode cX8_unroll 1 = .ok (.getfield 53, 3) := by decide +kernel
theorem dX8_unroll_4 : decode cX8_unroll 4 = .ok (.invokevirtual 125, 3) := by decide +kernel
theorem dX8_unroll_7 : decode cX8_unroll 7 = .ok (.istore_n 1, 1) := by decide +kernel
theorem dX8_unroll_8 : decode cX8_unroll 8 = .ok (.aload_n 0, 1) := by decide +kernel
theorem dX8_unroll_9 : decode cX8_unroll 9 = .ok (.getfield 53, 3) := by decide +kernel
theorem dX8_unroll_12 : decode cX8_unroll 12 = .ok (.invokevirtual 218, 3) := by decide +kernel
theorem dX8_unroll_15 : decode cX8_unroll 15 = .ok (.iload_n 1, 1) := by decide +kernel
theorem dX8_unroll_16 : decode cX8_unroll 16 = .ok (.ireturn, 1) := by decide +kernel
theorem zd_X8_unroll : yX8_unroll.cls ≠ "java/lang/invoke/MethodHandle" ∧ yX8_unroll.cls ≠ "java/lang/invoke/VarHandle" ∧ (parseMethodDescriptor yX8_unroll.desc).map (fun d => d.parameters.length) = some 0 := by decide +kernel
set_option maxHeartbeats 4000000 in
set_option maxRecDepth 100000 in
theorem zc_X8_unroll (l : Launch) (D : va_G) (cI cZ : ClassId) (o : Nat) (tx : Nat) (r : Nat) (a : Nat) (r2 : Nat) (a2 : Nat) (x : Nat) (y : Nat) (z : Nat) (v : Nat) (h : Nat) (sd : Int64) (zp : Nat) (zd : Nat) (cr : Nat) (ft : Int32) (kd : Int32) (su : Int32) : zI l yX8_unroll cX8_unroll 2 .int 1 20 D cI cZ [.ref o] [(o, .inr (8, [.ref tx, .ref r, .ref a, .ref r2, .ref a2, .ref x, .ref y, .ref z, .ref v, .ref h, .long sd])), (z, .inr (4, [.ref zp, .ref zd, .int (nI cr), .int ft, .int kd, .int su]))] (fun (r : Int32) (u : Unit) => r = nI cr) (fun (u : Unit) => [(o, .inr (8, [.ref tx, .ref r, .ref a, .ref r2, .ref a2, .ref x, .ref y, .ref z, .ref v, .ref h, .long sd])), (z, .inr (4, [.ref zp, .ref zd, .int (nI 0), .int ft, .int kd, .int su]))]) := by
  refine zI_of (by decide) (Nat.le_of_ble_eq_true rfl) ?_
  intro pP eE sS mM aA bB mT cC A ls Z hP hD hS hl
  have hx := Z.1
  have hb := Z.2.1
  have hown := Z.2.2.2.2.2.1
  have hts := Z.2.2.2.2.1
  have Z : zAt pP sS mM aA mT cC D cI cZ A "SurpriseTax" cX8_unroll 2 (some .int) := Z
  have hl : lv_has ls 2 [(0, .ref o)] := hl
  obtain ⟨H, hH⟩ : ∃ H, H = sS.heap := ⟨_, rfl⟩
  have hP : va_P D vwCl [(o, .inr (8, [.ref tx, .ref r, .ref a, .ref r2, .ref a2, .ref x, .ref y, .ref z, .ref v, .ref h, .long sd])), (z, .inr (4, [.ref zp, .ref zd, .int (nI cr), .int ft, .int kd, .int su]))] H := by rw [hH]; exact hP
  have hS : va_S A sS.heap H [] := by rw [hH]; exact hS
  rw [← hH]
  clear hH
  obtain ⟨locs, hlo⟩ : ∃ q : List Loc, q = [] := ⟨_, rfl⟩
  rw [← hlo] at hS ⊢
  clear hlo
  refine lv_aload_n hx hb dX8_unroll_0 rfl (lv_at hl 0 rfl) ?_
  refine z_get (ci := 8) (v := .ref z) Z zin8 hP 0 rfl rfl 7 (by decide) zm181 rfl rfl dX8_unroll_1 ?_
  refine z_callVi (As := []) (rest := []) (ci := 4) (k0 := 0) Z hP hD hS hl.1 (zc_X4_count l D cI cZ z zp zd cr ft kd su ) zm321 zm322 zm323 zm36 zm324 ⟨rfl, zd_X4_count⟩ ⟨Nat.le_of_ble_eq_true rfl, Nat.le_of_ble_eq_true rfl⟩ ⟨Nat.zero_le _, Nat.zero_le _⟩ [1] rfl (by decide) rfl rfl rfl (fun _ => rfl) rfl (Nat.le_of_ble_eq_true rfl) rfl dX8_unroll_4 (fun r_1 u H locs h_2 hP hD hS => ?_)
  have hP : va_P D vwCl [(o, .inr (8, [.ref tx, .ref r, .ref a, .ref r2, .ref a2, .ref x, .ref y, .ref z, .ref v, .ref h, .long sd])), (z, .inr (4, [.ref zp, .ref zd, .int (nI cr), .int ft, .int kd, .int su]))] H := hP
  have hD : va_D A [(o, .inr (8, [.ref tx, .ref r, .ref a, .ref r2, .ref a2, .ref x, .ref y, .ref z, .ref v, .ref h, .long sd])), (z, .inr (4, [.ref zp, .ref zd, .int (nI cr), .int ft, .int kd, .int su]))] := hD
  have h_2 : r_1 = nI cr := h_2
  subst h_2
  refine lv_istore_n (lv' := [(1, .int (nI cr)), (0, .ref o)]) hx hb dX8_unroll_7 rfl hl (by decide) rfl (fun ls hl => ?_)
  refine lv_aload_n hx hb dX8_unroll_8 rfl (lv_at hl 1 rfl) ?_
  refine z_get (ci := 8) (v := .ref z) Z zin8 hP 0 rfl rfl 7 (by decide) zm181 rfl rfl dX8_unroll_9 ?_
  refine z_callVv (As := []) (rest := []) (ci := 4) (k0 := 0) Z hP hD hS hl.1 (zc_X4_clear l D cI cZ z zp zd cr ft kd su ) zm535 zm536 zm537 zm36 zm538 ⟨rfl, zd_X4_clear⟩ ⟨Nat.le_of_ble_eq_true rfl, Nat.le_of_ble_eq_true rfl⟩ ⟨Nat.zero_le _, Nat.zero_le _⟩ [1] rfl (by decide) rfl rfl rfl (fun _ => rfl) rfl (Nat.le_of_ble_eq_true rfl) rfl dX8_unroll_12 (fun u H locs h_4 hP hD hS => ?_)
  have hP : va_P D vwCl [(o, .inr (8, [.ref tx, .ref r, .ref a, .ref r2, .ref a2, .ref x, .ref y, .ref z, .ref v, .ref h, .long sd])), (z, .inr (4, [.ref zp, .ref zd, .int (nI 0), .int ft, .int kd, .int su]))] H := hP
  have hD : va_D A [(o, .inr (8, [.ref tx, .ref r, .ref a, .ref r2, .ref a2, .ref x, .ref y, .ref z, .ref v, .ref h, .long sd])), (z, .inr (4, [.ref zp, .ref zd, .int (nI 0), .int ft, .int kd, .int su]))] := hD
  refine lv_iload_n hx hb dX8_unroll_15 rfl (lv_at hl 0 rfl) ?_
  exact z_iret Z () rfl hP hS dX8_unroll_16

theorem dX8_tales_0 : decode cX8_tales 0 = .ok (.iload_n 1, 1) := by decide +kernel
theorem dX8_tales_1 : decode cX8_tales 1 = .ok (.ifCond .lt 8, 3) := by decide +kernel
theorem dX8_tales_4 : decode cX8_tales 4 = .ok (.iload_n 1, 1) := by decide +kernel
theorem dX8_tales_5 : decode cX8_tales 5 = .ok (.iconst 2, 1) := by decide +kernel
theorem dX8_tales_6 : decode cX8_tales 6 = .ok (.if_icmp .le 6, 3) := by decide +kernel
theorem dX8_tales_9 : decode cX8_tales 9 = .ok (.bipush (-2), 2) := by decide +kernel
theorem dX8_tales_11 : decode cX8_tales 11 = .ok (.ireturn, 1) := by decide +kernel
theorem dX8_tales_12 : decode cX8_tales 12 = .ok (.aload_n 0, 1) := by decide +kernel
theorem dX8_tales_13 : decode cX8_tales 13 = .ok (.getfield 53, 3) := by decide +kernel
theorem dX8_tales_16 : decode cX8_tales 16 = .ok (.aload_n 0, 1) := by decide +kernel
theorem dX8_tales_17 : decode cX8_tales 17 = .ok (.getfield 19, 3) := by decide +kernel
theorem dX8_tales_20 : decode cX8_tales 20 = .ok (.aload_n 0, 1) := by decide +kernel
theorem dX8_tales_21 : decode cX8_tales 21 = .ok (.getfield 26, 3) := by decide +kernel
theorem dX8_tales_24 : decode cX8_tales 24 = .ok (.invokevirtual 219, 3) := by decide +kernel
theorem dX8_tales_27 : decode cX8_tales 27 = .ok (.iload_n 1, 1) := by decide +kernel
theorem dX8_tales_28 : decode cX8_tales 28 = .ok (.ifCond .ne 11, 3) := by decide +kernel
theorem dX8_tales_31 : decode cX8_tales 31 = .ok (.aload_n 0, 1) := by decide +kernel
theorem dX8_tales_32 : decode cX8_tales 32 = .ok (.getfield 53, 3) := by decide +kernel
theorem dX8_tales_35 : decode cX8_tales 35 = .ok (.invokevirtual 223, 3) := by decide +kernel
theorem dX8_tales_38 : decode cX8_tales 38 = .ok (.ireturn, 1) := by decide +kernel
theorem dX8_tales_39 : decode cX8_tales 39 = .ok (.iload_n 1, 1) := by decide +kernel
theorem dX8_tales_40 : decode cX8_tales 40 = .ok (.iconst 1, 1) := by decide +kernel
theorem dX8_tales_41 : decode cX8_tales 41 = .ok (.if_icmp .ne 13, 3) := by decide +kernel
theorem dX8_tales_44 : decode cX8_tales 44 = .ok (.aload_n 0, 1) := by decide +kernel
theorem dX8_tales_45 : decode cX8_tales 45 = .ok (.getfield 53, 3) := by decide +kernel
theorem dX8_tales_48 : decode cX8_tales 48 = .ok (.invokevirtual 226, 3) := by decide +kernel
theorem dX8_tales_51 : decode cX8_tales 51 = .ok (.goto 10, 3) := by decide +kernel
theorem dX8_tales_54 : decode cX8_tales 54 = .ok (.aload_n 0, 1) := by decide +kernel
theorem dX8_tales_55 : decode cX8_tales 55 = .ok (.getfield 53, 3) := by decide +kernel
theorem dX8_tales_58 : decode cX8_tales 58 = .ok (.invokevirtual 229, 3) := by decide +kernel
theorem dX8_tales_61 : decode cX8_tales 61 = .ok (.ireturn, 1) := by decide +kernel
theorem zd_X8_tales : yX8_tales.cls ≠ "java/lang/invoke/MethodHandle" ∧ yX8_tales.cls ≠ "java/lang/invoke/VarHandle" ∧ (parseMethodDescriptor yX8_tales.desc).map (fun d => d.parameters.length) = some 1 := by decide +kernel
set_option maxHeartbeats 4000000 in
set_option maxRecDepth 100000 in
theorem zc_X8_tales (l : Launch) (D : va_G) (cI cZ : ClassId) (o : Nat) (tx : Nat) (r : Nat) (a : Nat) (r2 : Nat) (a2 : Nat) (x : Nat) (y : Nat) (z : Nat) (v : Nat) (h : Nat) (sd : Int64) (ro : Nat) (rn : Nat) (rr : Nat) (rt : Int32) (fr : Int32) (pr : Int32) (n : Nat) (m : Nat) (b : Nat) (f : Nat → Int32) (zp : Nat) (zd : Nat) (cr : Nat) (ft : Int32) (kd : Int32) (su : Int32) (pw : Nat → Int32) (pd : Nat → Int32) (x1 : Int32) (hn : n ≤ 5) (hcr : cr ≤ 6) : zI l yX8_tales cX8_tales 2 .int 5 113 D cI cZ [.ref o, .int x1] [(o, .inr (8, [.ref tx, .ref r, .ref a, .ref r2, .ref a2, .ref x, .ref y, .ref z, .ref v, .ref h, .long sd])), (r, .inr (3, [.ref ro, .ref rn, .ref rr, .int rt, .int fr, .int pr, .int (nI n), .int (nI m)])), (a, .inr (6, [.ref b])), (b, .inl (cI, 36, .inl f)), (z, .inr (4, [.ref zp, .ref zd, .int (nI cr), .int ft, .int kd, .int su])), (zp, .inl (cI, 6, .inl pw)), (zd, .inl (cI, 6, .inl pd))] (fun (r : Int32) (u : Int32 × Int32 × Int32) => r = zRa 0 2 x1 (fun w => zb3 (nI w) (ztal pw pd f rt fr n cr (zopN f n)).1 (ztal pw pd f rt fr n cr (zopN f n)).2.1 (if (ztal pw pd f rt fr n cr (zopN f n)).1 = 0 then -9 else (ztal pw pd f rt fr n cr (zopN f n)).2.2)) (-2)) (fun (u : Int32 × Int32 × Int32) => [(o, .inr (8, [.ref tx, .ref r, .ref a, .ref r2, .ref a2, .ref x, .ref y, .ref z, .ref v, .ref h, .long sd])), (r, .inr (3, [.ref ro, .ref rn, .ref rr, .int rt, .int fr, .int pr, .int (nI n), .int (nI m)])), (a, .inr (6, [.ref b])), (b, .inl (cI, 36, .inl f)), (z, .inr (4, [.ref zp, .ref zd, .int (nI cr), .int u.1, .int u.2.1, .int u.2.2])), (zp, .inl (cI, 6, .inl pw)), (zd, .inl (cI, 6, .inl pd))]) := by
  refine zI_of (by decide) (Nat.le_of_ble_eq_true rfl) ?_
  intro pP eE sS mM aA bB mT cC A ls Z hP hD hS hl
  have hx := Z.1
  have hb := Z.2.1
  have hown := Z.2.2.2.2.2.1
  have hts := Z.2.2.2.2.1
  have Z : zAt pP sS mM aA mT cC D cI cZ A "SurpriseTax" cX8_tales 2 (some .int) := Z
  have hl : lv_has ls 2 [(0, .ref o), (1, .int x1)] := hl
  obtain ⟨H, hH⟩ : ∃ H, H = sS.heap := ⟨_, rfl⟩
  have hP : va_P D vwCl [(o, .inr (8, [.ref tx, .ref r, .ref a, .ref r2, .ref a2, .ref x, .ref y, .ref z, .ref v, .ref h, .long sd])), (r, .inr (3, [.ref ro, .ref rn, .ref rr, .int rt, .int fr, .int pr, .int (nI n), .int (nI m)])), (a, .inr (6, [.ref b])), (b, .inl (cI, 36, .inl f)), (z, .inr (4, [.ref zp, .ref zd, .int (nI cr), .int ft, .int kd, .int su])), (zp, .inl (cI, 6, .inl pw)), (zd, .inl (cI, 6, .inl pd))] H := by rw [hH]; exact hP
  have hS : va_S A sS.heap H [] := by rw [hH]; exact hS
  rw [← hH]
  clear hH
  obtain ⟨locs, hlo⟩ : ∃ q : List Loc, q = [] := ⟨_, rfl⟩
  rw [← hlo] at hS ⊢
  clear hlo
  refine lv_iload_n hx hb dX8_tales_0 rfl (lv_at hl 1 rfl) ?_
  refine lv_if_lt (tgt := 9) hx hb dX8_tales_1 (by decide) (fun c_1 => ?_) (fun c_1 => ?_)
  · have c_1 : x1 < 0 := c_1
    refine lv_bipush (v := -2) hx hb dX8_tales_9 (by decide) ?_
    exact z_iret Z (ft, kd, su) (by first | rw [zRa_lo (by assumption)] | rw [zRa_hi (by assumption)] | rw [zRa_y hw0 hw (by decide), zb3_0 (by assumption)] | rw [zRa_y hw0 hw (by decide), zb3_1 (by assumption)] | rw [zRa_y hw0 hw (by decide), zb3_2 (by assumption) (by assumption) hw]) hP hS dX8_tales_11
  · have c_1 : ¬ (x1 < 0) := c_1
    refine lv_iload_n hx hb dX8_tales_4 rfl (lv_at hl 1 rfl) ?_
    refine lv_iconst (v := nI 2) hx hb dX8_tales_5 (by decide) ?_
    refine lv_icmp_le (tgt := 12) hx hb dX8_tales_6 (by decide) (fun c_2 => ?_) (fun c_2 => ?_)
    · have c_2 : x1 ≤ 2 := c_2
      obtain ⟨w, hw0, hw, rfl⟩ := zRa_of (lo := 0) (hi := 2) (by decide) (by decide) (by assumption) (by assumption)
      refine lv_aload_n hx hb dX8_tales_12 rfl (lv_at hl 0 rfl) ?_
      refine z_get (ci := 8) (v := .ref z) Z zin8 hP 0 rfl rfl 7 (by decide) zm181 rfl rfl dX8_tales_13 ?_
      refine lv_aload_n hx hb dX8_tales_16 rfl (lv_at hl 0 rfl) ?_
      refine z_get (ci := 8) (v := .ref r) Z zin8 hP 0 rfl rfl 1 (by decide) zm175 rfl rfl dX8_tales_17 ?_
      refine lv_aload_n hx hb dX8_tales_20 rfl (lv_at hl 0 rfl) ?_
      refine z_get (ci := 8) (v := .ref a) Z zin8 hP 0 rfl rfl 2 (by decide) zm176 rfl rfl dX8_tales_21 ?_
      refine z_callVv (As := [.ref r, .ref a]) (rest := []) (ci := 4) (k0 := 0) Z hP hD hS hl.1 (zc_X4_readTales l D cI cZ z zp zd cr ft kd su pw pd r ro rn rr rt fr pr n m a b f (by omega) (by omega)) zm543 zm544 zm545 zm36 zm546 ⟨rfl, zd_X4_readTales⟩ ⟨Nat.le_of_ble_eq_true rfl, Nat.le_of_ble_eq_true rfl⟩ ⟨Nat.zero_le _, Nat.zero_le _⟩ [4, 5, 6, 1, 2, 3] rfl (by decide) rfl rfl rfl (fun _ => rfl) rfl (Nat.le_of_ble_eq_true rfl) rfl dX8_tales_24 (fun u H locs h_4 hP hD hS => ?_)
      have hP : va_P D vwCl [(o, .inr (8, [.ref tx, .ref r, .ref a, .ref r2, .ref a2, .ref x, .ref y, .ref z, .ref v, .ref h, .long sd])), (r, .inr (3, [.ref ro, .ref rn, .ref rr, .int rt, .int fr, .int pr, .int (nI n), .int (nI m)])), (a, .inr (6, [.ref b])), (b, .inl (cI, 36, .inl f)), (z, .inr (4, [.ref zp, .ref zd, .int (nI cr), .int ((ztal pw pd f rt fr n cr (zopN f n)).1), .int ((ztal pw pd f rt fr n cr (zopN f n)).2.1), .int ((ztal pw pd f rt fr n cr (zopN f n)).2.2)])), (zp, .inl (cI, 6, .inl pw)), (zd, .inl (cI, 6, .inl pd))] H := hP
      have hD : va_D A [(o, .inr (8, [.ref tx, .ref r, .ref a, .ref r2, .ref a2, .ref x, .ref y, .ref z, .ref v, .ref h, .long sd])), (r, .inr (3, [.ref ro, .ref rn, .ref rr, .int rt, .int fr, .int pr, .int (nI n), .int (nI m)])), (a, .inr (6, [.ref b])), (b, .inl (cI, 36, .inl f)), (z, .inr (4, [.ref zp, .ref zd, .int (nI cr), .int ((ztal pw pd f rt fr n cr (zopN f n)).1), .int ((ztal pw pd f rt fr n cr (zopN f n)).2.1), .int ((ztal pw pd f rt fr n cr (zopN f n)).2.2)])), (zp, .inl (cI, 6, .inl pw)), (zd, .inl (cI, 6, .inl pd))] := hD
      refine lv_iload_n hx hb dX8_tales_27 rfl (lv_at hl 1 rfl) ?_
      refine lv_if_ne (tgt := 39) hx hb dX8_tales_28 (by decide) (fun c_5 => ?_) (fun c_5 => ?_)
      · have c_5 := zne (i := w) (j := 0) c_5
        refine lv_iload_n hx hb dX8_tales_39 rfl (lv_at hl 1 rfl) ?_
        refine lv_iconst (v := nI 1) hx hb dX8_tales_40 (by decide) ?_
        refine lv_icmp_ne (tgt := 54) hx hb dX8_tales_41 (by decide) (fun c_6 => ?_) (fun c_6 => ?_)
        · have c_6 := zne (i := w) (j := 1) c_6
          refine lv_aload_n hx hb dX8_tales_54 rfl (lv_at hl 0 rfl) ?_
          refine z_get (ci := 8) (v := .ref z) Z zin8 hP 0 rfl rfl 7 (by decide) zm181 rfl rfl dX8_tales_55 ?_
          refine z_callVi (As := []) (rest := []) (ci := 4) (k0 := 0) Z hP hD hS hl.1 (zc_X4_sure l D cI cZ z zp zd cr ((ztal pw pd f rt fr n cr (zopN f n)).1) ((ztal pw pd f rt fr n cr (zopN f n)).2.1) ((ztal pw pd f rt fr n cr (zopN f n)).2.2) ) zm564 zm565 zm566 zm36 zm567 ⟨rfl, zd_X4_sure⟩ ⟨Nat.le_of_ble_eq_true rfl, Nat.le_of_ble_eq_true rfl⟩ ⟨Nat.zero_le _, Nat.zero_le _⟩ [4] rfl (by decide) rfl rfl rfl (fun _ => rfl) rfl (Nat.le_of_ble_eq_true rfl) rfl dX8_tales_58 (fun r_7 u H locs h_8 hP hD hS => ?_)
          have hP : va_P D vwCl [(o, .inr (8, [.ref tx, .ref r, .ref a, .ref r2, .ref a2, .ref x, .ref y, .ref z, .ref v, .ref h, .long sd])), (r, .inr (3, [.ref ro, .ref rn, .ref rr, .int rt, .int fr, .int pr, .int (nI n), .int (nI m)])), (a, .inr (6, [.ref b])), (b, .inl (cI, 36, .inl f)), (z, .inr (4, [.ref zp, .ref zd, .int (nI cr), .int ((ztal pw pd f rt fr n cr (zopN f n)).1), .int ((ztal pw pd f rt fr n cr (zopN f n)).2.1), .int ((ztal pw pd f rt fr n cr (zopN f n)).2.2)])), (zp, .inl (cI, 6, .inl pw)), (zd, .inl (cI, 6, .inl pd))] H := hP
          have hD : va_D A [(o, .inr (8, [.ref tx, .ref r, .ref a, .ref r2, .ref a2, .ref x, .ref y, .ref z, .ref v, .ref h, .long sd])), (r, .inr (3, [.ref ro, .ref rn, .ref rr, .int rt, .int fr, .int pr, .int (nI n), .int (nI m)])), (a, .inr (6, [.ref b])), (b, .inl (cI, 36, .inl f)), (z, .inr (4, [.ref zp, .ref zd, .int (nI cr), .int ((ztal pw pd f rt fr n cr (zopN f n)).1), .int ((ztal pw pd f rt fr n cr (zopN f n)).2.1), .int ((ztal pw pd f rt fr n cr (zopN f n)).2.2)])), (zp, .inl (cI, 6, .inl pw)), (zd, .inl (cI, 6, .inl pd))] := hD
          have h_8 : r_7 = if ((ztal pw pd f rt fr n cr (zopN f n)).1) = 0 then -9 else ((ztal pw pd f rt fr n cr (zopN f n)).2.2) := h_8
          subst h_8
          exact z_iret Z ((ztal pw pd f rt fr n cr (zopN f n)).1, (ztal pw pd f rt fr n cr (zopN f n)).2.1, (ztal pw pd f rt fr n cr (zopN f n)).2.2) (by first | rw [zRa_lo (by assumption)] | rw [zRa_hi (by assumption)] | rw [zRa_y hw0 hw (by decide), zb3_0 (by assumption)] | rw [zRa_y hw0 hw (by decide), zb3_1 (by assumption)] | rw [zRa_y hw0 hw (by decide), zb3_2 (by assumption) (by assumption) hw]) hP hS dX8_tales_61
        · have c_6 := zeq (i := w) (j := 1) (by omega) (by decide) c_6
          refine lv_aload_n hx hb dX8_tales_44 rfl (lv_at hl 0 rfl) ?_
          refine z_get (ci := 8) (v := .ref z) Z zin8 hP 0 rfl rfl 7 (by decide) zm181 rfl rfl dX8_tales_45 ?_
          refine z_callVi (As := []) (rest := []) (ci := 4) (k0 := 0) Z hP hD hS hl.1 (zc_X4_kinds l D cI cZ z zp zd cr ((ztal pw pd f rt fr n cr (zopN f n)).1) ((ztal pw pd f rt fr n cr (zopN f n)).2.1) ((ztal pw pd f rt fr n cr (zopN f n)).2.2) ) zm560 zm561 zm562 zm36 zm563 ⟨rfl, zd_X4_kinds⟩ ⟨Nat.le_of_ble_eq_true rfl, Nat.le_of_ble_eq_true rfl⟩ ⟨Nat.zero_le _, Nat.zero_le _⟩ [4] rfl (by decide) rfl rfl rfl (fun _ => rfl) rfl (Nat.le_of_ble_eq_true rfl) rfl dX8_tales_48 (fun r_9 u H locs h_10 hP hD hS => ?_)
          have hP : va_P D vwCl [(o, .inr (8, [.ref tx, .ref r, .ref a, .ref r2, .ref a2, .ref x, .ref y, .ref z, .ref v, .ref h, .long sd])), (r, .inr (3, [.ref ro, .ref rn, .ref rr, .int rt, .int fr, .int pr, .int (nI n), .int (nI m)])), (a, .inr (6, [.ref b])), (b, .inl (cI, 36, .inl f)), (z, .inr (4, [.ref zp, .ref zd, .int (nI cr), .int ((ztal pw pd f rt fr n cr (zopN f n)).1), .int ((ztal pw pd f rt fr n cr (zopN f n)).2.1), .int ((ztal pw pd f rt fr n cr (zopN f n)).2.2)])), (zp, .inl (cI, 6, .inl pw)), (zd, .inl (cI, 6, .inl pd))] H := hP
          have hD : va_D A [(o, .inr (8, [.ref tx, .ref r, .ref a, .ref r2, .ref a2, .ref x, .ref y, .ref z, .ref v, .ref h, .long sd])), (r, .inr (3, [.ref ro, .ref rn, .ref rr, .int rt, .int fr, .int pr, .int (nI n), .int (nI m)])), (a, .inr (6, [.ref b])), (b, .inl (cI, 36, .inl f)), (z, .inr (4, [.ref zp, .ref zd, .int (nI cr), .int ((ztal pw pd f rt fr n cr (zopN f n)).1), .int ((ztal pw pd f rt fr n cr (zopN f n)).2.1), .int ((ztal pw pd f rt fr n cr (zopN f n)).2.2)])), (zp, .inl (cI, 6, .inl pw)), (zd, .inl (cI, 6, .inl pd))] := hD
          have h_10 : r_9 = (ztal pw pd f rt fr n cr (zopN f n)).2.1 := h_10
          subst h_10
          refine lv_goto (tgt := 61) hx hb dX8_tales_51 (by decide) ?_
          exact z_iret Z ((ztal pw pd f rt fr n cr (zopN f n)).1, (ztal pw pd f rt fr n cr (zopN f n)).2.1, (ztal pw pd f rt fr n cr (zopN f n)).2.2) (by first | rw [zRa_lo (by assumption)] | rw [zRa_hi (by assumption)] | rw [zRa_y hw0 hw (by decide), zb3_0 (by assumption)] | rw [zRa_y hw0 hw (by decide), zb3_1 (by assumption)] | rw [zRa_y hw0 hw (by decide), zb3_2 (by assumption) (by assumption) hw]) hP hS dX8_tales_61
      · have c_5 := zeq (i := w) (j := 0) (by omega) (by decide) c_5
        refine lv_aload_n hx hb dX8_tales_31 rfl (lv_at hl 0 rfl) ?_
        refine z_get (ci := 8) (v := .ref z) Z zin8 hP 0 rfl rfl 7 (by decide) zm181 rfl rfl dX8_tales_32 ?_
        refine z_callVi (As := []) (rest := []) (ci := 4) (k0 := 0) Z hP hD hS hl.1 (zc_X4_fitting l D cI cZ z zp zd cr ((ztal pw pd f rt fr n cr (zopN f n)).1) ((ztal pw pd f rt fr n cr (zopN f n)).2.1) ((ztal pw pd f rt fr n cr (zopN f n)).2.2) ) zm556 zm557 zm558 zm36 zm559 ⟨rfl, zd_X4_fitting⟩ ⟨Nat.le_of_ble_eq_true rfl, Nat.le_of_ble_eq_true rfl⟩ ⟨Nat.zero_le _, Nat.zero_le _⟩ [4] rfl (by decide) rfl rfl rfl (fun _ => rfl) rfl (Nat.le_of_ble_eq_true rfl) rfl dX8_tales_35 (fun r_11 u H locs h_12 hP hD hS => ?_)
        have hP : va_P D vwCl [(o, .inr (8, [.ref tx, .ref r, .ref a, .ref r2, .ref a2, .ref x, .ref y, .ref z, .ref v, .ref h, .long sd])), (r, .inr (3, [.ref ro, .ref rn, .ref rr, .int rt, .int fr, .int pr, .int (nI n), .int (nI m)])), (a, .inr (6, [.ref b])), (b, .inl (cI, 36, .inl f)), (z, .inr (4, [.ref zp, .ref zd, .int (nI cr), .int ((ztal pw pd f rt fr n cr (zopN f n)).1), .int ((ztal pw pd f rt fr n cr (zopN f n)).2.1), .int ((ztal pw pd f rt fr n cr (zopN f n)).2.2)])), (zp, .inl (cI, 6, .inl pw)), (zd, .inl (cI, 6, .inl pd))] H := hP
        have hD : va_D A [(o, .inr (8, [.ref tx, .ref r, .ref a, .ref r2, .ref a2, .ref x, .ref y, .ref z, .ref v, .ref h, .long sd])), (r, .inr (3, [.ref ro, .ref rn, .ref rr, .int rt, .int fr, .int pr, .int (nI n), .int (nI m)])), (a, .inr (6, [.ref b])), (b, .inl (cI, 36, .inl f)), (z, .inr (4, [.ref zp, .ref zd, .int (nI cr), .int ((ztal pw pd f rt fr n cr (zopN f n)).1), .int ((ztal pw pd f rt fr n cr (zopN f n)).2.1), .int ((ztal pw pd f rt fr n cr (zopN f n)).2.2)])), (zp, .inl (cI, 6, .inl pw)), (zd, .inl (cI, 6, .inl pd))] := hD
        have h_12 : r_11 = (ztal pw pd f rt fr n cr (zopN f n)).1 := h_12
        subst h_12
        exact z_iret Z ((ztal pw pd f rt fr n cr (zopN f n)).1, (ztal pw pd f rt fr n cr (zopN f n)).2.1, (ztal pw pd f rt fr n cr (zopN f n)).2.2) (by first | rw [zRa_lo (by assumption)] | rw [zRa_hi (by assumption)] | rw [zRa_y hw0 hw (by decide), zb3_0 (by assumption)] | rw [zRa_y hw0 hw (by decide), zb3_1 (by assumption)] | rw [zRa_y hw0 hw (by decide), zb3_2 (by assumption) (by assumption) hw]) hP hS dX8_tales_38
    · have c_2 : ¬ (x1 ≤ 2) := c_2
      refine lv_bipush (v := -2) hx hb dX8_tales_9 (by decide) ?_
      exact z_iret Z (ft, kd, su) (by first | rw [zRa_lo (by assumption)] | rw [zRa_hi (by assumption)] | rw [zRa_y hw0 hw (by decide), zb3_0 (by assumption)] | rw [zRa_y hw0 hw (by decide), zb3_1 (by assumption)] | rw [zRa_y hw0 hw (by decide), zb3_2 (by assumption) (by assumption) hw]) hP hS dX8_tales_11

theorem dX8_school_0 : decode cX8_school 0 = .ok (.aload_n 0, 1) := by decide +kernel
theorem dX8_school_1 : decode cX8_school 1 = .ok (.getfield 19, 3) := by decide +kernel
theorem dX8_school_4 : decode cX8_school 4 = .ok (.iload_n 1, 1) := by decide +kernel
theorem dX8_school_5 : decode cX8_school 5 = .ok (.invokevirtual 126, 3) := by decide +kernel
theorem dX8_school_8 : decode cX8_school 8 = .ok (.ifCond .ne 5, 3) := by decide +kernel
theorem dX8_school_11 : decode cX8_school 11 = .ok (.iconst (-1), 1) := by decide +kernel
theorem dX8_school_12 : decode cX8_school 12 = .ok (.ireturn, 1) := by decide +kernel
theorem dX8_school_13 : decode cX8_school 13 = .ok (.iload_n 2, 1) := by decide +kernel
theorem dX8_school_14 : decode cX8_school 14 = .ok (.ifCond .lt 28, 3) := by decide +kernel
theorem dX8_school_17 : decode cX8_school 17 = .ok (.iload_n 2, 1) := by decide +kernel
theorem dX8_school_18 : decode cX8_school 18 = .ok (.iconst 2, 1) := by decide +kernel
theorem dX8_school_19 : decode cX8_school 19 = .ok (.if_icmp .gt 23, 3) := by decide +kernel
theorem dX8_school_22 : decode cX8_school 22 = .ok (.iload_n 3, 1) := by decide +kernel
theorem dX8_school_23 : decode cX8_school 23 = .ok (.iconst 1, 1) := by decide +kernel
theorem dX8_school_24 : decode cX8_school 24 = .ok (.if_icmp .lt 18, 3) := by decide +kernel
theorem dX8_school_27 : decode cX8_school 27 = .ok (.iload_n 3, 1) := by decide +kernel
theorem dX8_school_28 : decode cX8_school 28 = .ok (.bipush 8, 2) := by decide +kernel
theorem dX8_school_30 : decode cX8_school 30 = .ok (.if_icmp .gt 12, 3) := by decide +kernel
theorem dX8_school_33 : decode cX8_school 33 = .ok (.iload 4, 2) := by decide +kernel
theorem dX8_school_35 : decode cX8_school 35 = .ok (.iload_n 3, 1) := by decide +kernel
theorem dX8_school_36 : decode cX8_school 36 = .ok (.invokestatic 232, 3) := by decide +kernel
theorem dX8_school_39 : decode cX8_school 39 = .ok (.ifCond .ne 6, 3) := by decide +kernel
theorem dX8_school_42 : decode cX8_school 42 = .ok (.bipush (-2), 2) := by decide +kernel
theorem dX8_school_44 : decode cX8_school 44 = .ok (.ireturn, 1) := by decide +kernel
theorem dX8_school_45 : decode cX8_school 45 = .ok (.aload_n 0, 1) := by decide +kernel
theorem dX8_school_46 : decode cX8_school 46 = .ok (.getfield 67, 3) := by decide +kernel
theorem dX8_school_49 : decode cX8_school 49 = .ok (.aload_n 0, 1) := by decide +kernel
theorem dX8_school_50 : decode cX8_school 50 = .ok (.getfield 19, 3) := by decide +kernel
theorem dX8_school_53 : decode cX8_school 53 = .ok (.aload_n 0, 1) := by decide +kernel
theorem dX8_school_54 : decode cX8_school 54 = .ok (.getfield 26, 3) := by decide +kernel
theorem dX8_school_57 : decode cX8_school 57 = .ok (.iload_n 1, 1) := by decide +kernel
theorem dX8_school_58 : decode cX8_school 58 = .ok (.iload_n 2, 1) := by decide +kernel
theorem dX8_school_59 : decode cX8_school 59 = .ok (.iload_n 3, 1) := by decide +kernel
theorem dX8_school_60 : decode cX8_school 60 = .ok (.iload 4, 2) := by decide +kernel
theorem dX8_school_62 : decode cX8_school 62 = .ok (.invokevirtual 235, 3) := by decide +kernel
theorem dX8_school_65 : decode cX8_school 65 = .ok (.ireturn, 1) := by decide +kernel
theorem zd_X8_school : yX8_school.cls ≠ "java/lang/invoke/MethodHandle" ∧ yX8_school.cls ≠ "java/lang/invoke/VarHandle" ∧ (parseMethodDescriptor yX8_school.desc).map (fun d => d.parameters.length) = some 4 := by decide +kernel
set_option maxHeartbeats 4000000 in
set_option maxRecDepth 100000 in
theorem zc_X8_school (l : Launch) (D : va_G) (cI cZ : ClassId) (o : Nat) (tx : Nat) (r : Nat) (a : Nat) (r2 : Nat) (a2 : Nat) (x : Nat) (y : Nat) (z : Nat) (v : Nat) (h : Nat) (sd : Int64) (ro : Nat) (rn : Nat) (rr : Nat) (rt : Int32) (fr : Int32) (pr : Int32) (n : Nat) (m : Nat) (b : Nat) (f : Nat → Int32) (jr : Int32) (a4 : Nat) (b4 : Nat) (g4 : Nat → Int32) (x1 : Int32) (x2 : Int32) (x3 : Int32) (x4 : Int32) (hn : n ≤ 5) : zI l yX8_school cX8_school 5 .int 3 76 D cI cZ [.ref o, .int x1, .int x2, .int x3, .int x4] [(o, .inr (8, [.ref tx, .ref r, .ref a, .ref r2, .ref a2, .ref x, .ref y, .ref z, .ref v, .ref h, .long sd])), (r, .inr (3, [.ref ro, .ref rn, .ref rr, .int rt, .int fr, .int pr, .int (nI n), .int (nI m)])), (a, .inr (6, [.ref b])), (b, .inl (cI, 36, .inl f)), (h, .inr (2, [.ref a4, .int jr])), (a4, .inr (6, [.ref b4])), (b4, .inl (cI, 36, .inl g4))] (fun (r : Int32) (u : (Nat → Int32)) => r = zPa n x1 (fun p => zRa 0 2 x2 (fun c => zRa 1 8 x3 (fun d => zsco f fr p (nI c) d x4) (-2)) (-2)) (-1)) (fun (u : (Nat → Int32)) => [(o, .inr (8, [.ref tx, .ref r, .ref a, .ref r2, .ref a2, .ref x, .ref y, .ref z, .ref v, .ref h, .long sd])), (r, .inr (3, [.ref ro, .ref rn, .ref rr, .int rt, .int fr, .int pr, .int (nI n), .int (nI m)])), (a, .inr (6, [.ref b])), (b, .inl (cI, 36, .inl f)), (h, .inr (2, [.ref a4, .int jr])), (a4, .inr (6, [.ref b4])), (b4, .inl (cI, 36, .inl u))]) := by
  refine zI_of (by decide) (Nat.le_of_ble_eq_true rfl) ?_
  intro pP eE sS mM aA bB mT cC A ls Z hP hD hS hl
  have hx := Z.1
  have hb := Z.2.1
  have hown := Z.2.2.2.2.2.1
  have hts := Z.2.2.2.2.1
  have Z : zAt pP sS mM aA mT cC D cI cZ A "SurpriseTax" cX8_school 5 (some .int) := Z
  have hl : lv_has ls 5 [(0, .ref o), (1, .int x1), (2, .int x2), (3, .int x3), (4, .int x4)] := hl
  obtain ⟨H, hH⟩ : ∃ H, H = sS.heap := ⟨_, rfl⟩
  have hP : va_P D vwCl [(o, .inr (8, [.ref tx, .ref r, .ref a, .ref r2, .ref a2, .ref x, .ref y, .ref z, .ref v, .ref h, .long sd])), (r, .inr (3, [.ref ro, .ref rn, .ref rr, .int rt, .int fr, .int pr, .int (nI n), .int (nI m)])), (a, .inr (6, [.ref b])), (b, .inl (cI, 36, .inl f)), (h, .inr (2, [.ref a4, .int jr])), (a4, .inr (6, [.ref b4])), (b4, .inl (cI, 36, .inl g4))] H := by rw [hH]; exact hP
  have hS : va_S A sS.heap H [] := by rw [hH]; exact hS
  rw [← hH]
  clear hH
  obtain ⟨locs, hlo⟩ : ∃ q : List Loc, q = [] := ⟨_, rfl⟩
  rw [← hlo] at hS ⊢
  clear hlo
  refine lv_aload_n hx hb dX8_school_0 rfl (lv_at hl 0 rfl) ?_
  refine z_get (ci := 8) (v := .ref r) Z zin8 hP 0 rfl rfl 1 (by decide) zm175 rfl rfl dX8_school_1 ?_
  refine lv_iload_n hx hb dX8_school_4 rfl (lv_at hl 1 rfl) ?_
  refine z_callVi (As := [.int x1]) (rest := []) (ci := 3) (k0 := 0) Z hP hD hS hl.1 (zc_X3_has l D cI cZ r ro rn rr rt fr pr n m x1 ) zm329 zm270 zm271 zm32 zm272 ⟨rfl, zd_X3_has⟩ ⟨Nat.le_of_ble_eq_true rfl, Nat.le_of_ble_eq_true rfl⟩ ⟨Nat.zero_le _, Nat.zero_le _⟩ [1] rfl (by decide) rfl rfl rfl (fun _ => rfl) rfl (Nat.le_of_ble_eq_true rfl) rfl dX8_school_5 (fun r_1 u H locs h_2 hP hD hS => ?_)
  have hP : va_P D vwCl [(o, .inr (8, [.ref tx, .ref r, .ref a, .ref r2, .ref a2, .ref x, .ref y, .ref z, .ref v, .ref h, .long sd])), (r, .inr (3, [.ref ro, .ref rn, .ref rr, .int rt, .int fr, .int pr, .int (nI n), .int (nI m)])), (a, .inr (6, [.ref b])), (b, .inl (cI, 36, .inl f)), (h, .inr (2, [.ref a4, .int jr])), (a4, .inr (6, [.ref b4])), (b4, .inl (cI, 36, .inl g4))] H := hP
  have hD : va_D A [(o, .inr (8, [.ref tx, .ref r, .ref a, .ref r2, .ref a2, .ref x, .ref y, .ref z, .ref v, .ref h, .long sd])), (r, .inr (3, [.ref ro, .ref rn, .ref rr, .int rt, .int fr, .int pr, .int (nI n), .int (nI m)])), (a, .inr (6, [.ref b])), (b, .inl (cI, 36, .inl f)), (h, .inr (2, [.ref a4, .int jr])), (a4, .inr (6, [.ref b4])), (b4, .inl (cI, 36, .inl g4))] := hD
  have h_2 : r_1 = if zhas n x1 then 1 else 0 := h_2
  subst h_2
  refine lv_if_ne (tgt := 13) hx hb dX8_school_8 (by decide) (fun c_3 => ?_) (fun c_3 => ?_)
  · have c_3 := zb1 c_3
    obtain ⟨p, hp, rfl⟩ := zhas_of (by omega) c_3
    refine lv_iload_n hx hb dX8_school_13 rfl (lv_at hl 2 rfl) ?_
    refine lv_if_lt (tgt := 42) hx hb dX8_school_14 (by decide) (fun c_4 => ?_) (fun c_4 => ?_)
    · have c_4 : x2 < 0 := c_4
      refine lv_bipush (v := -2) hx hb dX8_school_42 (by decide) ?_
      exact z_iret Z (g4) (by first | rw [zPa_n (by assumption)] | (rw [zPa_y hp hn]; first | rw [zRa_lo (by assumption)] | rw [zRa_hi (Int32.not_le.mpr (by assumption))] | (rw [zRa_y hc0 hc (by decide)]; first | rw [zRa_lo (by assumption)] | rw [zRa_hi (Int32.not_le.mpr (by assumption))] | (rw [zRa_y hd1 hd (by decide)]; unfold zsco; first | (rw [if_pos hro, nI_clamp hw]) | (rw [if_neg (by assumption)]))))) hP hS dX8_school_44
    · have c_4 : ¬ (x2 < 0) := c_4
      refine lv_iload_n hx hb dX8_school_17 rfl (lv_at hl 2 rfl) ?_
      refine lv_iconst (v := nI 2) hx hb dX8_school_18 (by decide) ?_
      refine lv_icmp_gt (tgt := 42) hx hb dX8_school_19 (by decide) (fun c_5 => ?_) (fun c_5 => ?_)
      · have c_5 : 2 < x2 := c_5
        refine lv_bipush (v := -2) hx hb dX8_school_42 (by decide) ?_
        exact z_iret Z (g4) (by first | rw [zPa_n (by assumption)] | (rw [zPa_y hp hn]; first | rw [zRa_lo (by assumption)] | rw [zRa_hi (Int32.not_le.mpr (by assumption))] | (rw [zRa_y hc0 hc (by decide)]; first | rw [zRa_lo (by assumption)] | rw [zRa_hi (Int32.not_le.mpr (by assumption))] | (rw [zRa_y hd1 hd (by decide)]; unfold zsco; first | (rw [if_pos hro, nI_clamp hw]) | (rw [if_neg (by assumption)]))))) hP hS dX8_school_44
      · have c_5 : ¬ (2 < x2) := c_5
        obtain ⟨c, hc0, hc, rfl⟩ := zRa_of (lo := 0) (hi := 2) (by decide) (by decide) (by assumption) (Int32.not_lt.mp c_5)
        refine lv_iload_n hx hb dX8_school_22 rfl (lv_at hl 3 rfl) ?_
        refine lv_iconst (v := nI 1) hx hb dX8_school_23 (by decide) ?_
        refine lv_icmp_lt (tgt := 42) hx hb dX8_school_24 (by decide) (fun c_6 => ?_) (fun c_6 => ?_)
        · have c_6 : x3 < 1 := c_6
          refine lv_bipush (v := -2) hx hb dX8_school_42 (by decide) ?_
          exact z_iret Z (g4) (by first | rw [zPa_n (by assumption)] | (rw [zPa_y hp hn]; first | rw [zRa_lo (by assumption)] | rw [zRa_hi (Int32.not_le.mpr (by assumption))] | (rw [zRa_y hc0 hc (by decide)]; first | rw [zRa_lo (by assumption)] | rw [zRa_hi (Int32.not_le.mpr (by assumption))] | (rw [zRa_y hd1 hd (by decide)]; unfold zsco; first | (rw [if_pos hro, nI_clamp hw]) | (rw [if_neg (by assumption)]))))) hP hS dX8_school_44
        · have c_6 : ¬ (x3 < 1) := c_6
          refine lv_iload_n hx hb dX8_school_27 rfl (lv_at hl 3 rfl) ?_
          refine lv_bipush (v := nI 8) hx hb dX8_school_28 (by decide) ?_
          refine lv_icmp_gt (tgt := 42) hx hb dX8_school_30 (by decide) (fun c_7 => ?_) (fun c_7 => ?_)
          · have c_7 : 8 < x3 := c_7
            refine lv_bipush (v := -2) hx hb dX8_school_42 (by decide) ?_
            exact z_iret Z (g4) (by first | rw [zPa_n (by assumption)] | (rw [zPa_y hp hn]; first | rw [zRa_lo (by assumption)] | rw [zRa_hi (Int32.not_le.mpr (by assumption))] | (rw [zRa_y hc0 hc (by decide)]; first | rw [zRa_lo (by assumption)] | rw [zRa_hi (Int32.not_le.mpr (by assumption))] | (rw [zRa_y hd1 hd (by decide)]; unfold zsco; first | (rw [if_pos hro, nI_clamp hw]) | (rw [if_neg (by assumption)]))))) hP hS dX8_school_44
          · have c_7 : ¬ (8 < x3) := c_7
            obtain ⟨d, hd1, hd, rfl⟩ := zRa_of (lo := 1) (hi := 8) (by decide) (by decide) (by assumption) (Int32.not_lt.mp c_7)
            have h10 : 10 ^ d ≤ 100000000 := (Nat.pow_le_pow_right (show 0 < 10 by decide) hd : 10 ^ d ≤ 10 ^ 8)
            refine lv_iload hx hb dX8_school_33 (lv_at hl 4 rfl) ?_
            refine lv_iload_n hx hb dX8_school_35 rfl (lv_at hl 3 rfl) ?_
            refine z_callSi (As := [.int x4, .int (nI d)]) (rest := []) Z hP hD hS hl.1 (zc_X8_isRow l D cI cZ x4 d (by omega)) zm572 zm573 zm30 zm574 zd_X8_isRow ⟨Nat.le_of_ble_eq_true rfl, Nat.le_of_ble_eq_true rfl⟩ ⟨Nat.zero_le _, Nat.zero_le _⟩ [] rfl (by decide) (fun _ => rfl) rfl (Nat.le_of_ble_eq_true rfl) rfl dX8_school_36 (fun r_8 u H locs h_9 hP hD hS => ?_)
            have hP : va_P D vwCl [(o, .inr (8, [.ref tx, .ref r, .ref a, .ref r2, .ref a2, .ref x, .ref y, .ref z, .ref v, .ref h, .long sd])), (r, .inr (3, [.ref ro, .ref rn, .ref rr, .int rt, .int fr, .int pr, .int (nI n), .int (nI m)])), (a, .inr (6, [.ref b])), (b, .inl (cI, 36, .inl f)), (h, .inr (2, [.ref a4, .int jr])), (a4, .inr (6, [.ref b4])), (b4, .inl (cI, 36, .inl g4))] H := hP
            have hD : va_D A [(o, .inr (8, [.ref tx, .ref r, .ref a, .ref r2, .ref a2, .ref x, .ref y, .ref z, .ref v, .ref h, .long sd])), (r, .inr (3, [.ref ro, .ref rn, .ref rr, .int rt, .int fr, .int pr, .int (nI n), .int (nI m)])), (a, .inr (6, [.ref b])), (b, .inl (cI, 36, .inl f)), (h, .inr (2, [.ref a4, .int jr])), (a4, .inr (6, [.ref b4])), (b4, .inl (cI, 36, .inl g4))] := hD
            have h_9 : r_8 = if zirow d x4 then 1 else 0 := h_9
            subst h_9
            refine lv_if_ne (tgt := 45) hx hb dX8_school_39 (by decide) (fun c_10 => ?_) (fun c_10 => ?_)
            · have c_10 := zb1 c_10
              have hro := c_10
              obtain ⟨w, hw, rfl⟩ := nI_of hro.1
              have hrw := zrw_all ((zirow_nat hw hd).mp hro).2
              refine lv_aload_n hx hb dX8_school_45 rfl (lv_at hl 0 rfl) ?_
              refine z_get (ci := 8) (v := .ref h) Z zin8 hP 0 rfl rfl 9 (by decide) zm183 rfl rfl dX8_school_46 ?_
              refine lv_aload_n hx hb dX8_school_49 rfl (lv_at hl 0 rfl) ?_
              refine z_get (ci := 8) (v := .ref r) Z zin8 hP 0 rfl rfl 1 (by decide) zm175 rfl rfl dX8_school_50 ?_
              refine lv_aload_n hx hb dX8_school_53 rfl (lv_at hl 0 rfl) ?_
              refine z_get (ci := 8) (v := .ref a) Z zin8 hP 0 rfl rfl 2 (by decide) zm176 rfl rfl dX8_school_54 ?_
              refine lv_iload_n hx hb dX8_school_57 rfl (lv_at hl 1 rfl) ?_
              refine lv_iload_n hx hb dX8_school_58 rfl (lv_at hl 2 rfl) ?_
              refine lv_iload_n hx hb dX8_school_59 rfl (lv_at hl 3 rfl) ?_
              refine lv_iload hx hb dX8_school_60 (lv_at hl 4 rfl) ?_
              refine z_callVi (As := [.ref r, .ref a, .int (nI p), .int (nI c), .int (nI d), .int (nI w)]) (rest := []) (ci := 2) (k0 := 0) Z hP hD hS hl.1 (zc_X2_surprisesIn l D cI cZ h jr a4 b4 g4 r ro rn rr rt fr pr n m a b f p (nI c) d w (by first | exact hrw | omega) (by first | exact hrw | omega) (by first | exact hrw | omega) (by first | exact hrw | omega) (by first | exact hrw | omega)) zm578 zm579 zm580 zm38 zm581 ⟨rfl, zd_X2_surprisesIn⟩ ⟨Nat.le_of_ble_eq_true rfl, Nat.le_of_ble_eq_true rfl⟩ ⟨Nat.zero_le _, Nat.zero_le _⟩ [4, 5, 6, 1, 2, 3] rfl (by decide) rfl rfl rfl (fun _ => rfl) rfl (Nat.le_of_ble_eq_true rfl) rfl dX8_school_62 (fun r_11 u H locs h_12 hP hD hS => ?_)
              obtain ⟨g2_13, rfl⟩ : ∃ z, z = u := ⟨_, rfl⟩
              have hP : va_P D vwCl [(o, .inr (8, [.ref tx, .ref r, .ref a, .ref r2, .ref a2, .ref x, .ref y, .ref z, .ref v, .ref h, .long sd])), (r, .inr (3, [.ref ro, .ref rn, .ref rr, .int rt, .int fr, .int pr, .int (nI n), .int (nI m)])), (a, .inr (6, [.ref b])), (b, .inl (cI, 36, .inl f)), (h, .inr (2, [.ref a4, .int jr])), (a4, .inr (6, [.ref b4])), (b4, .inl (cI, 36, .inl g2_13))] H := hP
              have hD : va_D A [(o, .inr (8, [.ref tx, .ref r, .ref a, .ref r2, .ref a2, .ref x, .ref y, .ref z, .ref v, .ref h, .long sd])), (r, .inr (3, [.ref ro, .ref rn, .ref rr, .int rt, .int fr, .int pr, .int (nI n), .int (nI m)])), (a, .inr (6, [.ref b])), (b, .inl (cI, 36, .inl f)), (h, .inr (2, [.ref a4, .int jr])), (a4, .inr (6, [.ref b4])), (b4, .inl (cI, 36, .inl g2_13))] := hD
              have h_12 : r_11 = zss f p fr (nI c) d w d := h_12
              subst h_12
              exact z_iret Z (g2_13) (by first | rw [zPa_n (by assumption)] | (rw [zPa_y hp hn]; first | rw [zRa_lo (by assumption)] | rw [zRa_hi (Int32.not_le.mpr (by assumption))] | (rw [zRa_y hc0 hc (by decide)]; first | rw [zRa_lo (by assumption)] | rw [zRa_hi (Int32.not_le.mpr (by assumption))] | (rw [zRa_y hd1 hd (by decide)]; unfold zsco; first | (rw [if_pos hro, nI_clamp hw]) | (rw [if_neg (by assumption)]))))) hP hS dX8_school_65
            · have c_10 := zb0 c_10
              refine lv_bipush (v := -2) hx hb dX8_school_42 (by decide) ?_
              exact z_iret Z (g4) (by first | rw [zPa_n (by assumption)] | (rw [zPa_y hp hn]; first | rw [zRa_lo (by assumption)] | rw [zRa_hi (Int32.not_le.mpr (by assumption))] | (rw [zRa_y hc0 hc (by decide)]; first | rw [zRa_lo (by assumption)] | rw [zRa_hi (Int32.not_le.mpr (by assumption))] | (rw [zRa_y hd1 hd (by decide)]; unfold zsco; first | (rw [if_pos hro, nI_clamp hw]) | (rw [if_neg (by assumption)]))))) hP hS dX8_school_44
  · have c_3 := zb0 c_3
    refine lv_iconst (v := -1) hx hb dX8_school_11 (by decide) ?_
    exact z_iret Z (g4) (by first | rw [zPa_n (by assumption)] | (rw [zPa_y hp hn]; first | rw [zRa_lo (by assumption)] | rw [zRa_hi (Int32.not_le.mpr (by assumption))] | (rw [zRa_y hc0 hc (by decide)]; first | rw [zRa_lo (by assumption)] | rw [zRa_hi (Int32.not_le.mpr (by assumption))] | (rw [zRa_y hd1 hd (by decide)]; unfold zsco; first | (rw [if_pos hro, nI_clamp hw]) | (rw [if_neg (by assumption)]))))) hP hS dX8_school_12

theorem dX8_braced_0 : decode cX8_braced 0 = .ok (.iload_n 1, 1) := by decide +kernel
theorem dX8_braced_1 : decode cX8_braced 1 = .ok (.ifCond .lt 8, 3) := by decide +kernel
theorem dX8_braced_4 : decode cX8_braced 4 = .ok (.iload_n 1, 1) := by decide +kernel
theorem dX8_braced_5 : decode cX8_braced 5 = .ok (.iconst 2, 1) := by decide +kernel
theorem dX8_braced_6 : decode cX8_braced 6 = .ok (.if_icmp .le 6, 3) := by decide +kernel
theorem dX8_braced_9 : decode cX8_braced 9 = .ok (.bipush (-2), 2) := by decide +kernel
theorem dX8_braced_11 : decode cX8_braced 11 = .ok (.ireturn, 1) := by decide +kernel
theorem dX8_braced_12 : decode cX8_braced 12 = .ok (.iconst 0, 1) := by decide +kernel
theorem dX8_braced_13 : decode cX8_braced 13 = .ok (.istore_n 2, 1) := by decide +kernel
theorem dX8_braced_14 : decode cX8_braced 14 = .ok (.bipush (-9), 2) := by decide +kernel
theorem dX8_braced_16 : decode cX8_braced 16 = .ok (.istore_n 3, 1) := by decide +kernel
theorem dX8_braced_17 : decode cX8_braced 17 = .ok (.bipush (-9), 2) := by decide +kernel
theorem dX8_braced_19 : decode cX8_braced 19 = .ok (.istore 4, 2) := by decide +kernel
theorem dX8_braced_21 : decode cX8_braced 21 = .ok (.iconst 0, 1) := by decide +kernel
theorem dX8_braced_22 : decode cX8_braced 22 = .ok (.istore 5, 2) := by decide +kernel
theorem dX8_braced_24 : decode cX8_braced 24 = .ok (.iload 5, 2) := by decide +kernel
theorem dX8_braced_26 : decode cX8_braced 26 = .ok (.aload_n 0, 1) := by decide +kernel
theorem dX8_braced_27 : decode cX8_braced 27 = .ok (.getfield 19, 3) := by decide +kernel
theorem dX8_braced_30 : decode cX8_braced 30 = .ok (.invokevirtual 239, 3) := by decide +kernel
theorem dX8_braced_33 : decode cX8_braced 33 = .ok (.if_icmp .gt 40, 3) := by decide +kernel
theorem dX8_braced_36 : decode cX8_braced 36 = .ok (.aload_n 0, 1) := by decide +kernel
theorem dX8_braced_37 : decode cX8_braced 37 = .ok (.getfield 19, 3) := by decide +kernel
theorem dX8_braced_40 : decode cX8_braced 40 = .ok (.iload 5, 2) := by decide +kernel
theorem dX8_braced_42 : decode cX8_braced 42 = .ok (.invokevirtual 242, 3) := by decide +kernel
theorem dX8_braced_45 : decode cX8_braced 45 = .ok (.ifCond .ne 6, 3) := by decide +kernel
theorem dX8_braced_48 : decode cX8_braced 48 = .ok (.goto 19, 3) := by decide +kernel
theorem dX8_braced_51 : decode cX8_braced 51 = .ok (.iinc 2 1, 3) := by decide +kernel
theorem dX8_braced_54 : decode cX8_braced 54 = .ok (.iload_n 3, 1) := by decide +kernel
theorem dX8_braced_55 : decode cX8_braced 55 = .ok (.bipush (-9), 2) := by decide +kernel
theorem dX8_braced_57 : decode cX8_braced 57 = .ok (.if_icmp .ne 6, 3) := by decide +kernel
theorem dX8_braced_60 : decode cX8_braced 60 = .ok (.iload 5, 2) := by decide +kernel
theorem dX8_braced_62 : decode cX8_braced 62 = .ok (.istore_n 3, 1) := by decide +kernel
theorem dX8_braced_63 : decode cX8_braced 63 = .ok (.iload 5, 2) := by decide +kernel
theorem dX8_braced_65 : decode cX8_braced 65 = .ok (.istore 4, 2) := by decide +kernel
theorem dX8_braced_67 : decode cX8_braced 67 = .ok (.iinc 5 1, 3) := by decide +kernel
theorem dX8_braced_70 : decode cX8_braced 70 = .ok (.goto (-46), 3) := by decide +kernel
theorem dX8_braced_73 : decode cX8_braced 73 = .ok (.iload_n 1, 1) := by decide +kernel
theorem dX8_braced_74 : decode cX8_braced 74 = .ok (.ifCond .ne 5, 3) := by decide +kernel
theorem dX8_braced_77 : decode cX8_braced 77 = .ok (.iload_n 2, 1) := by decide +kernel
theorem dX8_braced_78 : decode cX8_braced 78 = .ok (.ireturn, 1) := by decide +kernel
theorem dX8_braced_79 : decode cX8_braced 79 = .ok (.iload_n 1, 1) := by decide +kernel
theorem dX8_braced_80 : decode cX8_braced 80 = .ok (.iconst 1, 1) := by decide +kernel
theorem dX8_braced_81 : decode cX8_braced 81 = .ok (.if_icmp .ne 7, 3) := by decide +kernel
theorem dX8_braced_84 : decode cX8_braced 84 = .ok (.iload_n 3, 1) := by decide +kernel
theorem dX8_braced_85 : decode cX8_braced 85 = .ok (.goto 5, 3) := by decide +kernel
theorem dX8_braced_88 : decode cX8_braced 88 = .ok (.iload 4, 2) := by decide +kernel
theorem dX8_braced_90 : decode cX8_braced 90 = .ok (.ireturn, 1) := by decide +kernel
theorem zd_X8_braced : yX8_braced.cls ≠ "java/lang/invoke/MethodHandle" ∧ yX8_braced.cls ≠ "java/lang/invoke/VarHandle" ∧ (parseMethodDescriptor yX8_braced.desc).map (fun d => d.parameters.length) = some 1 := by decide +kernel
set_option maxHeartbeats 4000000 in
set_option maxRecDepth 100000 in
theorem zc_X8_braced (l : Launch) (D : va_G) (cI cZ : ClassId) (o : Nat) (tx : Nat) (r : Nat) (a : Nat) (r2 : Nat) (a2 : Nat) (x : Nat) (y : Nat) (z : Nat) (v : Nat) (h : Nat) (sd : Int64) (ro : Nat) (rn : Nat) (rr : Nat) (rt : Int32) (fr : Int32) (pr : Int32) (n : Nat) (m : Nat) (nv : Nat → Int32) (rd : Nat → Int32) (x1 : Int32) (hn : n ≤ 5) : zI l yX8_braced cX8_braced 6 .int 2 43 D cI cZ [.ref o, .int x1] [(o, .inr (8, [.ref tx, .ref r, .ref a, .ref r2, .ref a2, .ref x, .ref y, .ref z, .ref v, .ref h, .long sd])), (r, .inr (3, [.ref ro, .ref rn, .ref rr, .int rt, .int fr, .int pr, .int (nI n), .int (nI m)])), (rn, .inl (cI, 5, .inl nv)), (rr, .inl (cI, 5, .inl rd))] (fun (r : Int32) (u : Unit) => r = zRa 0 2 x1 (fun w => zb3 (nI w) (zbrn rd nv n (2 ^ n)).1 (zbrn rd nv n (2 ^ n)).2.1 (zbrn rd nv n (2 ^ n)).2.2) (-2)) (fun (u : Unit) => [(o, .inr (8, [.ref tx, .ref r, .ref a, .ref r2, .ref a2, .ref x, .ref y, .ref z, .ref v, .ref h, .long sd])), (r, .inr (3, [.ref ro, .ref rn, .ref rr, .int rt, .int fr, .int pr, .int (nI n), .int (nI m)])), (rn, .inl (cI, 5, .inl nv)), (rr, .inl (cI, 5, .inl rd))]) := by
  refine zI_of (by decide) (Nat.le_of_ble_eq_true rfl) ?_
  intro pP eE sS mM aA bB mT cC A ls Z hP hD hS hl
  have hx := Z.1
  have hb := Z.2.1
  have hown := Z.2.2.2.2.2.1
  have hts := Z.2.2.2.2.1
  have Z : zAt pP sS mM aA mT cC D cI cZ A "SurpriseTax" cX8_braced 6 (some .int) := Z
  have hl : lv_has ls 6 [(0, .ref o), (1, .int x1)] := hl
  obtain ⟨H, hH⟩ : ∃ H, H = sS.heap := ⟨_, rfl⟩
  have hP : va_P D vwCl [(o, .inr (8, [.ref tx, .ref r, .ref a, .ref r2, .ref a2, .ref x, .ref y, .ref z, .ref v, .ref h, .long sd])), (r, .inr (3, [.ref ro, .ref rn, .ref rr, .int rt, .int fr, .int pr, .int (nI n), .int (nI m)])), (rn, .inl (cI, 5, .inl nv)), (rr, .inl (cI, 5, .inl rd))] H := by rw [hH]; exact hP
  have hS : va_S A sS.heap H [] := by rw [hH]; exact hS
  rw [← hH]
  clear hH
  obtain ⟨locs, hlo⟩ : ∃ q : List Loc, q = [] := ⟨_, rfl⟩
  rw [← hlo] at hS ⊢
  clear hlo
  refine lv_iload_n hx hb dX8_braced_0 rfl (lv_at hl 1 rfl) ?_
  refine lv_if_lt (tgt := 9) hx hb dX8_braced_1 (by decide) (fun c_1 => ?_) (fun c_1 => ?_)
  · have c_1 : x1 < 0 := c_1
    refine lv_bipush (v := -2) hx hb dX8_braced_9 (by decide) ?_
    exact z_iret Z () (by first | rw [zRa_lo (by assumption)] | rw [zRa_hi (by assumption)] | rw [zRa_y hw0 hw (by decide), zb3_0 (by assumption)] | rw [zRa_y hw0 hw (by decide), zb3_1 (by assumption)] | rw [zRa_y hw0 hw (by decide), zb3_2 (by assumption) (by assumption) hw]) hP hS dX8_braced_11
  · have c_1 : ¬ (x1 < 0) := c_1
    refine lv_iload_n hx hb dX8_braced_4 rfl (lv_at hl 1 rfl) ?_
    refine lv_iconst (v := nI 2) hx hb dX8_braced_5 (by decide) ?_
    refine lv_icmp_le (tgt := 12) hx hb dX8_braced_6 (by decide) (fun c_2 => ?_) (fun c_2 => ?_)
    · have c_2 : x1 ≤ 2 := c_2
      obtain ⟨w, hw0, hw, rfl⟩ := zRa_of (lo := 0) (hi := 2) (by decide) (by decide) (by assumption) (by assumption)
      have h2n := zp2 hn
      refine lv_iconst (v := nI 0) hx hb dX8_braced_12 (by decide) ?_
      refine lv_istore_n (lv' := [(2, .int (nI 0)), (0, .ref o), (1, .int (nI w))]) hx hb dX8_braced_13 rfl hl (by decide) rfl (fun ls hl => ?_)
      refine lv_bipush (v := -9) hx hb dX8_braced_14 (by decide) ?_
      refine lv_istore_n (lv' := [(3, .int (-9)), (2, .int (nI 0)), (0, .ref o), (1, .int (nI w))]) hx hb dX8_braced_16 rfl hl (by decide) rfl (fun ls hl => ?_)
      refine lv_bipush (v := -9) hx hb dX8_braced_17 (by decide) ?_
      refine lv_istore (lv' := [(4, .int (-9)), (3, .int (-9)), (2, .int (nI 0)), (0, .ref o), (1, .int (nI w))]) hx hb dX8_braced_19 hl (by decide) rfl (fun ls hl => ?_)
      refine lv_iconst (v := nI 0) hx hb dX8_braced_21 (by decide) ?_
      refine lv_istore (lv' := [(5, .int (nI 0)), (4, .int (-9)), (3, .int (-9)), (2, .int (nI 0)), (0, .ref o), (1, .int (nI w))]) hx hb dX8_braced_22 hl (by decide) rfl (fun ls hl => ?_)
      have hl : lv_has ls 6 [(5, .int (nI 0)), (4, .int (-9)), (3, .int (-9)), (2, .int (nI 0)), (0, .ref o), (1, .int (nI w))] := lv_sub hl [0, 1, 2, 3, 4, 5] rfl
      have e_4 : -9 = (zbrn rd nv n 0).2.2 := by rfl
      have hl : lv_has ls 6 [(5, .int (nI 0)), (4, .int ((zbrn rd nv n 0).2.2)), (3, .int (-9)), (2, .int (nI 0)), (0, .ref o), (1, .int (nI w))] := Eq.subst (motive := fun zz_ => lv_has ls 6 [(5, .int (nI 0)), (4, .int zz_), (3, .int (-9)), (2, .int (nI 0)), (0, .ref o), (1, .int (nI w))]) e_4 hl
      have e_5 : -9 = (zbrn rd nv n 0).2.1 := by rfl
      have hl : lv_has ls 6 [(5, .int (nI 0)), (4, .int ((zbrn rd nv n 0).2.2)), (3, .int ((zbrn rd nv n 0).2.1)), (2, .int (nI 0)), (0, .ref o), (1, .int (nI w))] := Eq.subst (motive := fun zz_ => lv_has ls 6 [(5, .int (nI 0)), (4, .int ((zbrn rd nv n 0).2.2)), (3, .int zz_), (2, .int (nI 0)), (0, .ref o), (1, .int (nI w))]) e_5 hl
      have e_6 : nI 0 = (zbrn rd nv n 0).1 := by rfl
      have hl : lv_has ls 6 [(5, .int (nI 0)), (4, .int ((zbrn rd nv n 0).2.2)), (3, .int ((zbrn rd nv n 0).2.1)), (2, .int ((zbrn rd nv n 0).1)), (0, .ref o), (1, .int (nI w))] := Eq.subst (motive := fun zz_ => lv_has ls 6 [(5, .int (nI 0)), (4, .int ((zbrn rd nv n 0).2.2)), (3, .int ((zbrn rd nv n 0).2.1)), (2, .int zz_), (0, .ref o), (1, .int (nI w))]) e_6 hl
      refine z_loop (fun s H locs ls => va_P D vwCl [(o, .inr (8, [.ref tx, .ref r, .ref a, .ref r2, .ref a2, .ref x, .ref y, .ref z, .ref v, .ref h, .long sd])), (r, .inr (3, [.ref ro, .ref rn, .ref rr, .int rt, .int fr, .int pr, .int (nI n), .int (nI m)])), (rn, .inl (cI, 5, .inl nv)), (rr, .inl (cI, 5, .inl rd))] H ∧ va_D A [(o, .inr (8, [.ref tx, .ref r, .ref a, .ref r2, .ref a2, .ref x, .ref y, .ref z, .ref v, .ref h, .long sd])), (r, .inr (3, [.ref ro, .ref rn, .ref rr, .int rt, .int fr, .int pr, .int (nI n), .int (nI m)])), (rn, .inl (cI, 5, .inl nv)), (rr, .inl (cI, 5, .inl rd))] ∧ va_S A sS.heap H locs ∧ lv_has ls 6 [(5, .int (nI s)), (4, .int ((zbrn rd nv n s).2.2)), (3, .int ((zbrn rd nv n s).2.1)), (2, .int ((zbrn rd nv n s).1)), (0, .ref o), (1, .int (nI w))]) (2 ^ n) (lo := 0) (by omega) ⟨hP, hD, hS, hl⟩ (fun s hi_s ih_3 H locs ls hI => ?_)
      obtain ⟨hP, hD, hS, hl⟩ := hI
      have hP : va_P D vwCl [(o, .inr (8, [.ref tx, .ref r, .ref a, .ref r2, .ref a2, .ref x, .ref y, .ref z, .ref v, .ref h, .long sd])), (r, .inr (3, [.ref ro, .ref rn, .ref rr, .int rt, .int fr, .int pr, .int (nI n), .int (nI m)])), (rn, .inl (cI, 5, .inl nv)), (rr, .inl (cI, 5, .inl rd))] H := hP
      have hD : va_D A [(o, .inr (8, [.ref tx, .ref r, .ref a, .ref r2, .ref a2, .ref x, .ref y, .ref z, .ref v, .ref h, .long sd])), (r, .inr (3, [.ref ro, .ref rn, .ref rr, .int rt, .int fr, .int pr, .int (nI n), .int (nI m)])), (rn, .inl (cI, 5, .inl nv)), (rr, .inl (cI, 5, .inl rd))] := hD
      have hl : lv_has ls 6 [(5, .int (nI s)), (4, .int ((zbrn rd nv n s).2.2)), (3, .int ((zbrn rd nv n s).2.1)), (2, .int ((zbrn rd nv n s).1)), (0, .ref o), (1, .int (nI w))] := hl
      refine lv_iload hx hb dX8_braced_24 (lv_at hl 0 rfl) ?_
      refine lv_aload_n hx hb dX8_braced_26 rfl (lv_at hl 4 rfl) ?_
      refine z_get (ci := 8) (v := .ref r) Z zin8 hP 0 rfl rfl 1 (by decide) zm175 rfl rfl dX8_braced_27 ?_
      refine z_callVi (As := []) (rest := [.int (nI s)]) (ci := 3) (k0 := 0) Z hP hD hS hl.1 (zc_X3_everybody l D cI cZ r ro rn rr rt fr pr n m ) zm593 zm274 zm275 zm32 zm276 ⟨rfl, zd_X3_everybody⟩ ⟨Nat.le_of_ble_eq_true rfl, Nat.le_of_ble_eq_true rfl⟩ ⟨Nat.zero_le _, Nat.zero_le _⟩ [1] rfl (by decide) rfl rfl rfl (fun _ => rfl) rfl (Nat.le_of_ble_eq_true rfl) rfl dX8_braced_30 (fun r_7 u H locs h_8 hP hD hS => ?_)
      have hP : va_P D vwCl [(o, .inr (8, [.ref tx, .ref r, .ref a, .ref r2, .ref a2, .ref x, .ref y, .ref z, .ref v, .ref h, .long sd])), (r, .inr (3, [.ref ro, .ref rn, .ref rr, .int rt, .int fr, .int pr, .int (nI n), .int (nI m)])), (rn, .inl (cI, 5, .inl nv)), (rr, .inl (cI, 5, .inl rd))] H := hP
      have hD : va_D A [(o, .inr (8, [.ref tx, .ref r, .ref a, .ref r2, .ref a2, .ref x, .ref y, .ref z, .ref v, .ref h, .long sd])), (r, .inr (3, [.ref ro, .ref rn, .ref rr, .int rt, .int fr, .int pr, .int (nI n), .int (nI m)])), (rn, .inl (cI, 5, .inl nv)), (rr, .inl (cI, 5, .inl rd))] := hD
      have h_8 : r_7 = zev n := h_8
      subst h_8
      refine z_top (y := nI (2 ^ n - 1)) (zev_nat n hn) ?_
      refine lv_icmp_gt (tgt := 73) hx hb dX8_braced_33 (by decide) (fun c_9 => ?_) (fun c_9 => ?_)
      · have c_9 := zlt (i := 2 ^ n - 1) (j := s) (by omega) (by omega) c_9
        have hE_ : 2 ^ n = s := by omega
        subst hE_
        refine lv_iload_n hx hb dX8_braced_73 rfl (lv_at hl 5 rfl) ?_
        refine lv_if_ne (tgt := 79) hx hb dX8_braced_74 (by decide) (fun c_10 => ?_) (fun c_10 => ?_)
        · have c_10 := zne (i := w) (j := 0) c_10
          refine lv_iload_n hx hb dX8_braced_79 rfl (lv_at hl 5 rfl) ?_
          refine lv_iconst (v := nI 1) hx hb dX8_braced_80 (by decide) ?_
          refine lv_icmp_ne (tgt := 88) hx hb dX8_braced_81 (by decide) (fun c_11 => ?_) (fun c_11 => ?_)
          · have c_11 := zne (i := w) (j := 1) c_11
            refine lv_iload hx hb dX8_braced_88 (lv_at hl 1 rfl) ?_
            exact z_iret Z () (by first | rw [zRa_lo (by assumption)] | rw [zRa_hi (by assumption)] | rw [zRa_y hw0 hw (by decide), zb3_0 (by assumption)] | rw [zRa_y hw0 hw (by decide), zb3_1 (by assumption)] | rw [zRa_y hw0 hw (by decide), zb3_2 (by assumption) (by assumption) hw]) hP hS dX8_braced_90
          · have c_11 := zeq (i := w) (j := 1) (by omega) (by decide) c_11
            refine lv_iload_n hx hb dX8_braced_84 rfl (lv_at hl 2 rfl) ?_
            refine lv_goto (tgt := 90) hx hb dX8_braced_85 (by decide) ?_
            exact z_iret Z () (by first | rw [zRa_lo (by assumption)] | rw [zRa_hi (by assumption)] | rw [zRa_y hw0 hw (by decide), zb3_0 (by assumption)] | rw [zRa_y hw0 hw (by decide), zb3_1 (by assumption)] | rw [zRa_y hw0 hw (by decide), zb3_2 (by assumption) (by assumption) hw]) hP hS dX8_braced_90
        · have c_10 := zeq (i := w) (j := 0) (by omega) (by decide) c_10
          refine lv_iload_n hx hb dX8_braced_77 rfl (lv_at hl 3 rfl) ?_
          exact z_iret Z () (by first | rw [zRa_lo (by assumption)] | rw [zRa_hi (by assumption)] | rw [zRa_y hw0 hw (by decide), zb3_0 (by assumption)] | rw [zRa_y hw0 hw (by decide), zb3_1 (by assumption)] | rw [zRa_y hw0 hw (by decide), zb3_2 (by assumption) (by assumption) hw]) hP hS dX8_braced_78
      · have c_9 := znlt (i := 2 ^ n - 1) (j := s) (by omega) (by omega) c_9
        refine lv_aload_n hx hb dX8_braced_36 rfl (lv_at hl 4 rfl) ?_
        refine z_get (ci := 8) (v := .ref r) Z zin8 hP 0 rfl rfl 1 (by decide) zm175 rfl rfl dX8_braced_37 ?_
        refine lv_iload hx hb dX8_braced_40 (lv_at hl 0 rfl) ?_
        refine z_callVi (As := [.int (nI s)]) (rest := []) (ci := 3) (k0 := 0) Z hP hD hS hl.1 (zc_X3_isBraced l D cI cZ r ro rn rr rt fr pr n m rd nv (nI s) (by omega)) zm594 zm595 zm596 zm32 zm597 ⟨rfl, zd_X3_isBraced⟩ ⟨Nat.le_of_ble_eq_true rfl, Nat.le_of_ble_eq_true rfl⟩ ⟨Nat.zero_le _, Nat.zero_le _⟩ [1, 2, 3] rfl (by decide) rfl rfl rfl (fun _ => rfl) rfl (Nat.le_of_ble_eq_true rfl) rfl dX8_braced_42 (fun r_12 u H locs h_13 hP hD hS => ?_)
        have hP : va_P D vwCl [(o, .inr (8, [.ref tx, .ref r, .ref a, .ref r2, .ref a2, .ref x, .ref y, .ref z, .ref v, .ref h, .long sd])), (r, .inr (3, [.ref ro, .ref rn, .ref rr, .int rt, .int fr, .int pr, .int (nI n), .int (nI m)])), (rn, .inl (cI, 5, .inl nv)), (rr, .inl (cI, 5, .inl rd))] H := hP
        have hD : va_D A [(o, .inr (8, [.ref tx, .ref r, .ref a, .ref r2, .ref a2, .ref x, .ref y, .ref z, .ref v, .ref h, .long sd])), (r, .inr (3, [.ref ro, .ref rn, .ref rr, .int rt, .int fr, .int pr, .int (nI n), .int (nI m)])), (rn, .inl (cI, 5, .inl nv)), (rr, .inl (cI, 5, .inl rd))] := hD
        have h_13 : r_12 = if zbr rd nv (nI s) n = true then 1 else 0 := h_13
        subst h_13
        refine lv_if_ne (tgt := 51) hx hb dX8_braced_45 (by decide) (fun c_14 => ?_) (fun c_14 => ?_)
        · have c_14 := zb1 c_14
          refine lv_iinc (v := ((zbrn rd nv n s).1) + 1) (lv' := [(2, .int (((zbrn rd nv n s).1) + 1)), (5, .int (nI s)), (4, .int ((zbrn rd nv n s).2.2)), (3, .int ((zbrn rd nv n s).2.1)), (0, .ref o), (1, .int (nI w))]) hx hb dX8_braced_51 hl (k := 3) rfl rfl (by decide) rfl (fun ls hl => ?_)
          refine lv_iload_n hx hb dX8_braced_54 rfl (lv_at hl 3 rfl) ?_
          refine lv_bipush (v := -9) hx hb dX8_braced_55 (by decide) ?_
          refine lv_icmp_ne (tgt := 63) hx hb dX8_braced_57 (by decide) (fun c_15 => ?_) (fun c_15 => ?_)
          · have c_15 : ¬ (((zbrn rd nv n s).2.1) = (-9)) := c_15
            refine lv_iload hx hb dX8_braced_63 (lv_at hl 1 rfl) ?_
            refine lv_istore (lv' := [(4, .int (nI s)), (2, .int (((zbrn rd nv n s).1) + 1)), (5, .int (nI s)), (3, .int ((zbrn rd nv n s).2.1)), (0, .ref o), (1, .int (nI w))]) hx hb dX8_braced_65 hl (by decide) rfl (fun ls hl => ?_)
            refine lv_iinc (v := nI (s + 1)) (lv' := [(5, .int (nI (s + 1))), (4, .int (nI s)), (2, .int (((zbrn rd nv n s).1) + 1)), (3, .int ((zbrn rd nv n s).2.1)), (0, .ref o), (1, .int (nI w))]) hx hb dX8_braced_67 hl (k := 2) rfl (z_inc _ 1) (by decide) rfl (fun ls hl => ?_)
            refine lv_goto (tgt := 24) hx hb dX8_braced_70 (by decide) ?_
            have hl : lv_has ls 6 [(5, .int (nI (s + 1))), (4, .int (nI s)), (3, .int ((zbrn rd nv n s).2.1)), (2, .int (((zbrn rd nv n s).1) + 1)), (0, .ref o), (1, .int (nI w))] := lv_sub hl [0, 1, 3, 2, 4, 5] rfl
            have e_16 : nI s = (zbrn rd nv n (s + 1)).2.2 := by first | (rw [zbrn_y (by assumption)]; show _ = ite _ _ _; first | rw [if_pos (by assumption)] | rw [if_neg (by assumption)]) | rw [zbrn_y (by assumption)] | rw [zbrn_n (by assumption)] | rfl
            have hl : lv_has ls 6 [(5, .int (nI (s + 1))), (4, .int ((zbrn rd nv n (s + 1)).2.2)), (3, .int ((zbrn rd nv n s).2.1)), (2, .int (((zbrn rd nv n s).1) + 1)), (0, .ref o), (1, .int (nI w))] := Eq.subst (motive := fun zz_ => lv_has ls 6 [(5, .int (nI (s + 1))), (4, .int zz_), (3, .int ((zbrn rd nv n s).2.1)), (2, .int (((zbrn rd nv n s).1) + 1)), (0, .ref o), (1, .int (nI w))]) e_16 hl
            have e_17 : (zbrn rd nv n s).2.1 = (zbrn rd nv n (s + 1)).2.1 := by first | (rw [zbrn_y (by assumption)]; show _ = ite _ _ _; first | rw [if_pos (by assumption)] | rw [if_neg (by assumption)]) | rw [zbrn_y (by assumption)] | rw [zbrn_n (by assumption)] | rfl
            have hl : lv_has ls 6 [(5, .int (nI (s + 1))), (4, .int ((zbrn rd nv n (s + 1)).2.2)), (3, .int ((zbrn rd nv n (s + 1)).2.1)), (2, .int (((zbrn rd nv n s).1) + 1)), (0, .ref o), (1, .int (nI w))] := Eq.subst (motive := fun zz_ => lv_has ls 6 [(5, .int (nI (s + 1))), (4, .int ((zbrn rd nv n (s + 1)).2.2)), (3, .int zz_), (2, .int (((zbrn rd nv n s).1) + 1)), (0, .ref o), (1, .int (nI w))]) e_17 hl
            have e_18 : ((zbrn rd nv n s).1) + 1 = (zbrn rd nv n (s + 1)).1 := by first | (rw [zbrn_y (by assumption)]; show _ = ite _ _ _; first | rw [if_pos (by assumption)] | rw [if_neg (by assumption)]) | rw [zbrn_y (by assumption)] | rw [zbrn_n (by assumption)] | rfl
            have hl : lv_has ls 6 [(5, .int (nI (s + 1))), (4, .int ((zbrn rd nv n (s + 1)).2.2)), (3, .int ((zbrn rd nv n (s + 1)).2.1)), (2, .int ((zbrn rd nv n (s + 1)).1)), (0, .ref o), (1, .int (nI w))] := Eq.subst (motive := fun zz_ => lv_has ls 6 [(5, .int (nI (s + 1))), (4, .int ((zbrn rd nv n (s + 1)).2.2)), (3, .int ((zbrn rd nv n (s + 1)).2.1)), (2, .int zz_), (0, .ref o), (1, .int (nI w))]) e_18 hl
            exact ih_3 _ _ _ (by omega) ⟨hP, hD, hS, hl⟩
          · have c_15 : ((zbrn rd nv n s).2.1) = (-9) := c_15
            refine lv_iload hx hb dX8_braced_60 (lv_at hl 1 rfl) ?_
            refine lv_istore_n (lv' := [(3, .int (nI s)), (2, .int (((zbrn rd nv n s).1) + 1)), (5, .int (nI s)), (4, .int ((zbrn rd nv n s).2.2)), (0, .ref o), (1, .int (nI w))]) hx hb dX8_braced_62 rfl hl (by decide) rfl (fun ls hl => ?_)
            refine lv_iload hx hb dX8_braced_63 (lv_at hl 2 rfl) ?_
            refine lv_istore (lv' := [(4, .int (nI s)), (3, .int (nI s)), (2, .int (((zbrn rd nv n s).1) + 1)), (5, .int (nI s)), (0, .ref o), (1, .int (nI w))]) hx hb dX8_braced_65 hl (by decide) rfl (fun ls hl => ?_)
            refine lv_iinc (v := nI (s + 1)) (lv' := [(5, .int (nI (s + 1))), (4, .int (nI s)), (3, .int (nI s)), (2, .int (((zbrn rd nv n s).1) + 1)), (0, .ref o), (1, .int (nI w))]) hx hb dX8_braced_67 hl (k := 3) rfl (z_inc _ 1) (by decide) rfl (fun ls hl => ?_)
            refine lv_goto (tgt := 24) hx hb dX8_braced_70 (by decide) ?_
            have hl : lv_has ls 6 [(5, .int (nI (s + 1))), (4, .int (nI s)), (3, .int (nI s)), (2, .int (((zbrn rd nv n s).1) + 1)), (0, .ref o), (1, .int (nI w))] := lv_sub hl [0, 1, 2, 3, 4, 5] rfl
            have e_19 : nI s = (zbrn rd nv n (s + 1)).2.2 := by first | (rw [zbrn_y (by assumption)]; show _ = ite _ _ _; first | rw [if_pos (by assumption)] | rw [if_neg (by assumption)]) | rw [zbrn_y (by assumption)] | rw [zbrn_n (by assumption)] | rfl
            have hl : lv_has ls 6 [(5, .int (nI (s + 1))), (4, .int ((zbrn rd nv n (s + 1)).2.2)), (3, .int (nI s)), (2, .int (((zbrn rd nv n s).1) + 1)), (0, .ref o), (1, .int (nI w))] := Eq.subst (motive := fun zz_ => lv_has ls 6 [(5, .int (nI (s + 1))), (4, .int zz_), (3, .int (nI s)), (2, .int (((zbrn rd nv n s).1) + 1)), (0, .ref o), (1, .int (nI w))]) e_19 hl
            have e_20 : nI s = (zbrn rd nv n (s + 1)).2.1 := by first | (rw [zbrn_y (by assumption)]; show _ = ite _ _ _; first | rw [if_pos (by assumption)] | rw [if_neg (by assumption)]) | rw [zbrn_y (by assumption)] | rw [zbrn_n (by assumption)] | rfl
            have hl : lv_has ls 6 [(5, .int (nI (s + 1))), (4, .int ((zbrn rd nv n (s + 1)).2.2)), (3, .int ((zbrn rd nv n (s + 1)).2.1)), (2, .int (((zbrn rd nv n s).1) + 1)), (0, .ref o), (1, .int (nI w))] := Eq.subst (motive := fun zz_ => lv_has ls 6 [(5, .int (nI (s + 1))), (4, .int ((zbrn rd nv n (s + 1)).2.2)), (3, .int zz_), (2, .int (((zbrn rd nv n s).1) + 1)), (0, .ref o), (1, .int (nI w))]) e_20 hl
            have e_21 : ((zbrn rd nv n s).1) + 1 = (zbrn rd nv n (s + 1)).1 := by first | (rw [zbrn_y (by assumption)]; show _ = ite _ _ _; first | rw [if_pos (by assumption)] | rw [if_neg (by assumption)]) | rw [zbrn_y (by assumption)] | rw [zbrn_n (by assumption)] | rfl
            have hl : lv_has ls 6 [(5, .int (nI (s + 1))), (4, .int ((zbrn rd nv n (s + 1)).2.2)), (3, .int ((zbrn rd nv n (s + 1)).2.1)), (2, .int ((zbrn rd nv n (s + 1)).1)), (0, .ref o), (1, .int (nI w))] := Eq.subst (motive := fun zz_ => lv_has ls 6 [(5, .int (nI (s + 1))), (4, .int ((zbrn rd nv n (s + 1)).2.2)), (3, .int ((zbrn rd nv n (s + 1)).2.1)), (2, .int zz_), (0, .ref o), (1, .int (nI w))]) e_21 hl
            exact ih_3 _ _ _ (by omega) ⟨hP, hD, hS, hl⟩
        · have c_14 := zb0 c_14
          refine lv_goto (tgt := 67) hx hb dX8_braced_48 (by decide) ?_
          refine lv_iinc (v := nI (s + 1)) (lv' := [(5, .int (nI (s + 1))), (4, .int ((zbrn rd nv n s).2.2)), (3, .int ((zbrn rd nv n s).2.1)), (2, .int ((zbrn rd nv n s).1)), (0, .ref o), (1, .int (nI w))]) hx hb dX8_braced_67 hl (k := 0) rfl (z_inc _ 1) (by decide) rfl (fun ls hl => ?_)
          refine lv_goto (tgt := 24) hx hb dX8_braced_70 (by decide) ?_
          have hl : lv_has ls 6 [(5, .int (nI (s + 1))), (4, .int ((zbrn rd nv n s).2.2)), (3, .int ((zbrn rd nv n s).2.1)), (2, .int ((zbrn rd nv n s).1)), (0, .ref o), (1, .int (nI w))] := lv_sub hl [0, 1, 2, 3, 4, 5] rfl
          have e_22 : (zbrn rd nv n s).2.2 = (zbrn rd nv n (s + 1)).2.2 := by first | (rw [zbrn_y (by assumption)]; show _ = ite _ _ _; first | rw [if_pos (by assumption)] | rw [if_neg (by assumption)]) | rw [zbrn_y (by assumption)] | rw [zbrn_n (by assumption)] | rfl
          have hl : lv_has ls 6 [(5, .int (nI (s + 1))), (4, .int ((zbrn rd nv n (s + 1)).2.2)), (3, .int ((zbrn rd nv n s).2.1)), (2, .int ((zbrn rd nv n s).1)), (0, .ref o), (1, .int (nI w))] := Eq.subst (motive := fun zz_ => lv_has ls 6 [(5, .int (nI (s + 1))), (4, .int zz_), (3, .int ((zbrn rd nv n s).2.1)), (2, .int ((zbrn rd nv n s).1)), (0, .ref o), (1, .int (nI w))]) e_22 hl
          have e_23 : (zbrn rd nv n s).2.1 = (zbrn rd nv n (s + 1)).2.1 := by first | (rw [zbrn_y (by assumption)]; show _ = ite _ _ _; first | rw [if_pos (by assumption)] | rw [if_neg (by assumption)]) | rw [zbrn_y (by assumption)] | rw [zbrn_n (by assumption)] | rfl
          have hl : lv_has ls 6 [(5, .int (nI (s + 1))), (4, .int ((zbrn rd nv n (s + 1)).2.2)), (3, .int ((zbrn rd nv n (s + 1)).2.1)), (2, .int ((zbrn rd nv n s).1)), (0, .ref o), (1, .int (nI w))] := Eq.subst (motive := fun zz_ => lv_has ls 6 [(5, .int (nI (s + 1))), (4, .int ((zbrn rd nv n (s + 1)).2.2)), (3, .int zz_), (2, .int ((zbrn rd nv n s).1)), (0, .ref o), (1, .int (nI w))]) e_23 hl
          have e_24 : (zbrn rd nv n s).1 = (zbrn rd nv n (s + 1)).1 := by first | (rw [zbrn_y (by assumption)]; show _ = ite _ _ _; first | rw [if_pos (by assumption)] | rw [if_neg (by assumption)]) | rw [zbrn_y (by assumption)] | rw [zbrn_n (by assumption)] | rfl
          have hl : lv_has ls 6 [(5, .int (nI (s + 1))), (4, .int ((zbrn rd nv n (s + 1)).2.2)), (3, .int ((zbrn rd nv n (s + 1)).2.1)), (2, .int ((zbrn rd nv n (s + 1)).1)), (0, .ref o), (1, .int (nI w))] := Eq.subst (motive := fun zz_ => lv_has ls 6 [(5, .int (nI (s + 1))), (4, .int ((zbrn rd nv n (s + 1)).2.2)), (3, .int ((zbrn rd nv n (s + 1)).2.1)), (2, .int zz_), (0, .ref o), (1, .int (nI w))]) e_24 hl
          exact ih_3 _ _ _ (by omega) ⟨hP, hD, hS, hl⟩
    · have c_2 : ¬ (x1 ≤ 2) := c_2
      refine lv_bipush (v := -2) hx hb dX8_braced_9 (by decide) ?_
      exact z_iret Z () (by first | rw [zRa_lo (by assumption)] | rw [zRa_hi (by assumption)] | rw [zRa_y hw0 hw (by decide), zb3_0 (by assumption)] | rw [zRa_y hw0 hw (by decide), zb3_1 (by assumption)] | rw [zRa_y hw0 hw (by decide), zb3_2 (by assumption) (by assumption) hw]) hP hS dX8_braced_11

theorem dX8_fair_0 : decode cX8_fair 0 = .ok (.aload_n 0, 1) := by decide +kernel
theorem dX8_fair_1 : decode cX8_fair 1 = .ok (.getfield 19, 3) := by decide +kernel
theorem dX8_fair_4 : decode cX8_fair 4 = .ok (.iload_n 1, 1) := by decide +kernel
theorem dX8_fair_5 : decode cX8_fair 5 = .ok (.invokevirtual 126, 3) := by decide +kernel
theorem dX8_fair_8 : decode cX8_fair 8 = .ok (.ifCond .ne 5, 3) := by decide +kernel
theorem dX8_fair_11 : decode cX8_fair 11 = .ok (.iconst (-1), 1) := by decide +kernel
theorem dX8_fair_12 : decode cX8_fair 12 = .ok (.ireturn, 1) := by decide +kernel
theorem dX8_fair_13 : decode cX8_fair 13 = .ok (.iload_n 2, 1) := by decide +kernel
theorem dX8_fair_14 : decode cX8_fair 14 = .ok (.invokestatic 130, 3) := by decide +kernel
theorem dX8_fair_17 : decode cX8_fair 17 = .ok (.ifCond .eq 14, 3) := by decide +kernel
theorem dX8_fair_20 : decode cX8_fair 20 = .ok (.iload_n 3, 1) := by decide +kernel
theorem dX8_fair_21 : decode cX8_fair 21 = .ok (.iconst 1, 1) := by decide +kernel
theorem dX8_fair_22 : decode cX8_fair 22 = .ok (.if_icmp .lt 9, 3) := by decide +kernel
theorem dX8_fair_25 : decode cX8_fair 25 = .ok (.iload_n 3, 1) := by decide +kernel
theorem dX8_fair_26 : decode cX8_fair 26 = .ok (.bipush 9, 2) := by decide +kernel
theorem dX8_fair_28 : decode cX8_fair 28 = .ok (.if_icmp .le 6, 3) := by decide +kernel
theorem dX8_fair_31 : decode cX8_fair 31 = .ok (.bipush (-2), 2) := by decide +kernel
theorem dX8_fair_33 : decode cX8_fair 33 = .ok (.ireturn, 1) := by decide +kernel
theorem dX8_fair_34 : decode cX8_fair 34 = .ok (.aload_n 0, 1) := by decide +kernel
theorem dX8_fair_35 : decode cX8_fair 35 = .ok (.getfield 60, 3) := by decide +kernel
theorem dX8_fair_38 : decode cX8_fair 38 = .ok (.aload_n 0, 1) := by decide +kernel
theorem dX8_fair_39 : decode cX8_fair 39 = .ok (.getfield 19, 3) := by decide +kernel
theorem dX8_fair_42 : decode cX8_fair 42 = .ok (.aload_n 0, 1) := by decide +kernel
theorem dX8_fair_43 : decode cX8_fair 43 = .ok (.getfield 26, 3) := by decide +kernel
theorem dX8_fair_46 : decode cX8_fair 46 = .ok (.iload_n 1, 1) := by decide +kernel
theorem dX8_fair_47 : decode cX8_fair 47 = .ok (.iload_n 2, 1) := by decide +kernel
theorem dX8_fair_48 : decode cX8_fair 48 = .ok (.iload_n 3, 1) := by decide +kernel
theorem dX8_fair_49 : decode cX8_fair 49 = .ok (.invokevirtual 245, 3) := by decide +kernel
theorem dX8_fair_52 : decode cX8_fair 52 = .ok (.ireturn, 1) := by decide +kernel
theorem zd_X8_fair : yX8_fair.cls ≠ "java/lang/invoke/MethodHandle" ∧ yX8_fair.cls ≠ "java/lang/invoke/VarHandle" ∧ (parseMethodDescriptor yX8_fair.desc).map (fun d => d.parameters.length) = some 3 := by decide +kernel
set_option maxHeartbeats 4000000 in
set_option maxRecDepth 100000 in
theorem zc_X8_fair (l : Launch) (D : va_G) (cI cZ : ClassId) (o : Nat) (tx : Nat) (r : Nat) (a : Nat) (r2 : Nat) (a2 : Nat) (x : Nat) (y : Nat) (z : Nat) (v : Nat) (h : Nat) (sd : Int64) (ro : Nat) (rn : Nat) (rr : Nat) (rt : Int32) (fr : Int32) (pr : Int32) (n : Nat) (m : Nat) (od : Nat → Int32) (b : Nat) (f : Nat → Int32) (ch : Int32) (tf : Int32) (a3 : Nat) (b3 : Nat) (g3 : Nat → Int32) (x1 : Int32) (x2 : Int32) (x3 : Int32) (hn : n ≤ 5) : zI l yX8_fair cX8_fair 4 .int 5 112 D cI cZ [.ref o, .int x1, .int x2, .int x3] [(o, .inr (8, [.ref tx, .ref r, .ref a, .ref r2, .ref a2, .ref x, .ref y, .ref z, .ref v, .ref h, .long sd])), (r, .inr (3, [.ref ro, .ref rn, .ref rr, .int rt, .int fr, .int pr, .int (nI n), .int (nI m)])), (ro, .inl (cI, 4, .inl od)), (a, .inr (6, [.ref b])), (b, .inl (cI, 36, .inl f)), (v, .inr (1, [.ref a3, .int ch, .int tf]))] (fun (r : Int32) (u : Unit) => r = zPa n x1 (fun p => zKa x2 (fun k => zRa 1 9 x3 (fun t => zfair f od rt fr p k (nI t)) (-2)) (-2)) (-1)) (fun (u : Unit) => [(o, .inr (8, [.ref tx, .ref r, .ref a, .ref r2, .ref a2, .ref x, .ref y, .ref z, .ref v, .ref h, .long sd])), (r, .inr (3, [.ref ro, .ref rn, .ref rr, .int rt, .int fr, .int pr, .int (nI n), .int (nI m)])), (ro, .inl (cI, 4, .inl od)), (a, .inr (6, [.ref b])), (b, .inl (cI, 36, .inl f)), (v, .inr (1, [.ref a3, .int ch, .int tf]))]) := by
  refine zI_of (by decide) (Nat.le_of_ble_eq_true rfl) ?_
  intro pP eE sS mM aA bB mT cC A ls Z hP hD hS hl
  have hx := Z.1
  have hb := Z.2.1
  have hown := Z.2.2.2.2.2.1
  have hts := Z.2.2.2.2.1
  have Z : zAt pP sS mM aA mT cC D cI cZ A "SurpriseTax" cX8_fair 4 (some .int) := Z
  have hl : lv_has ls 4 [(0, .ref o), (1, .int x1), (2, .int x2), (3, .int x3)] := hl
  obtain ⟨H, hH⟩ : ∃ H, H = sS.heap := ⟨_, rfl⟩
  have hP : va_P D vwCl [(o, .inr (8, [.ref tx, .ref r, .ref a, .ref r2, .ref a2, .ref x, .ref y, .ref z, .ref v, .ref h, .long sd])), (r, .inr (3, [.ref ro, .ref rn, .ref rr, .int rt, .int fr, .int pr, .int (nI n), .int (nI m)])), (ro, .inl (cI, 4, .inl od)), (a, .inr (6, [.ref b])), (b, .inl (cI, 36, .inl f)), (v, .inr (1, [.ref a3, .int ch, .int tf]))] H := by rw [hH]; exact hP
  have hS : va_S A sS.heap H [] := by rw [hH]; exact hS
  rw [← hH]
  clear hH
  obtain ⟨locs, hlo⟩ : ∃ q : List Loc, q = [] := ⟨_, rfl⟩
  rw [← hlo] at hS ⊢
  clear hlo
  refine lv_aload_n hx hb dX8_fair_0 rfl (lv_at hl 0 rfl) ?_
  refine z_get (ci := 8) (v := .ref r) Z zin8 hP 0 rfl rfl 1 (by decide) zm175 rfl rfl dX8_fair_1 ?_
  refine lv_iload_n hx hb dX8_fair_4 rfl (lv_at hl 1 rfl) ?_
  refine z_callVi (As := [.int x1]) (rest := []) (ci := 3) (k0 := 0) Z hP hD hS hl.1 (zc_X3_has l D cI cZ r ro rn rr rt fr pr n m x1 ) zm329 zm270 zm271 zm32 zm272 ⟨rfl, zd_X3_has⟩ ⟨Nat.le_of_ble_eq_true rfl, Nat.le_of_ble_eq_true rfl⟩ ⟨Nat.zero_le _, Nat.zero_le _⟩ [1] rfl (by decide) rfl rfl rfl (fun _ => rfl) rfl (Nat.le_of_ble_eq_true rfl) rfl dX8_fair_5 (fun r_1 u H locs h_2 hP hD hS => ?_)
  have hP : va_P D vwCl [(o, .inr (8, [.ref tx, .ref r, .ref a, .ref r2, .ref a2, .ref x, .ref y, .ref z, .ref v, .ref h, .long sd])), (r, .inr (3, [.ref ro, .ref rn, .ref rr, .int rt, .int fr, .int pr, .int (nI n), .int (nI m)])), (ro, .inl (cI, 4, .inl od)), (a, .inr (6, [.ref b])), (b, .inl (cI, 36, .inl f)), (v, .inr (1, [.ref a3, .int ch, .int tf]))] H := hP
  have hD : va_D A [(o, .inr (8, [.ref tx, .ref r, .ref a, .ref r2, .ref a2, .ref x, .ref y, .ref z, .ref v, .ref h, .long sd])), (r, .inr (3, [.ref ro, .ref rn, .ref rr, .int rt, .int fr, .int pr, .int (nI n), .int (nI m)])), (ro, .inl (cI, 4, .inl od)), (a, .inr (6, [.ref b])), (b, .inl (cI, 36, .inl f)), (v, .inr (1, [.ref a3, .int ch, .int tf]))] := hD
  have h_2 : r_1 = if zhas n x1 then 1 else 0 := h_2
  subst h_2
  refine lv_if_ne (tgt := 13) hx hb dX8_fair_8 (by decide) (fun c_3 => ?_) (fun c_3 => ?_)
  · have c_3 := zb1 c_3
    obtain ⟨p, hp, rfl⟩ := zhas_of (by omega) c_3
    refine lv_iload_n hx hb dX8_fair_13 rfl (lv_at hl 2 rfl) ?_
    refine z_callSi (As := [.int x2]) (rest := []) Z hP hD hS hl.1 (zc_X8_isKind l D cI cZ x2 ) zm330 zm331 zm30 zm332 zd_X8_isKind ⟨Nat.le_of_ble_eq_true rfl, Nat.le_of_ble_eq_true rfl⟩ ⟨Nat.zero_le _, Nat.zero_le _⟩ [] rfl (by decide) (fun _ => rfl) rfl (Nat.le_of_ble_eq_true rfl) rfl dX8_fair_14 (fun r_4 u H locs h_5 hP hD hS => ?_)
    have hP : va_P D vwCl [(o, .inr (8, [.ref tx, .ref r, .ref a, .ref r2, .ref a2, .ref x, .ref y, .ref z, .ref v, .ref h, .long sd])), (r, .inr (3, [.ref ro, .ref rn, .ref rr, .int rt, .int fr, .int pr, .int (nI n), .int (nI m)])), (ro, .inl (cI, 4, .inl od)), (a, .inr (6, [.ref b])), (b, .inl (cI, 36, .inl f)), (v, .inr (1, [.ref a3, .int ch, .int tf]))] H := hP
    have hD : va_D A [(o, .inr (8, [.ref tx, .ref r, .ref a, .ref r2, .ref a2, .ref x, .ref y, .ref z, .ref v, .ref h, .long sd])), (r, .inr (3, [.ref ro, .ref rn, .ref rr, .int rt, .int fr, .int pr, .int (nI n), .int (nI m)])), (ro, .inl (cI, 4, .inl od)), (a, .inr (6, [.ref b])), (b, .inl (cI, 36, .inl f)), (v, .inr (1, [.ref a3, .int ch, .int tf]))] := hD
    have h_5 : r_4 = if zkind x2 then 1 else 0 := h_5
    subst h_5
    refine lv_if_eq (tgt := 31) hx hb dX8_fair_17 (by decide) (fun c_6 => ?_) (fun c_6 => ?_)
    · have c_6 := zb0 c_6
      refine lv_bipush (v := -2) hx hb dX8_fair_31 (by decide) ?_
      exact z_iret Z () (by first | rw [zPa_n (by assumption)] | (rw [zPa_y hp hn]; first | rw [zKa_n (by assumption)] | (rw [zKa_y hk]; first | rw [zRa_lo (by assumption)] | rw [zRa_hi (by assumption)] | rw [zRa_y ht0 ht (by decide)]))) hP hS dX8_fair_33
    · have c_6 := zb1 c_6
      obtain ⟨k, hk, rfl⟩ := zkind_of c_6
      refine lv_iload_n hx hb dX8_fair_20 rfl (lv_at hl 3 rfl) ?_
      refine lv_iconst (v := nI 1) hx hb dX8_fair_21 (by decide) ?_
      refine lv_icmp_lt (tgt := 31) hx hb dX8_fair_22 (by decide) (fun c_7 => ?_) (fun c_7 => ?_)
      · have c_7 : x3 < 1 := c_7
        refine lv_bipush (v := -2) hx hb dX8_fair_31 (by decide) ?_
        exact z_iret Z () (by first | rw [zPa_n (by assumption)] | (rw [zPa_y hp hn]; first | rw [zKa_n (by assumption)] | (rw [zKa_y hk]; first | rw [zRa_lo (by assumption)] | rw [zRa_hi (by assumption)] | rw [zRa_y ht0 ht (by decide)]))) hP hS dX8_fair_33
      · have c_7 : ¬ (x3 < 1) := c_7
        refine lv_iload_n hx hb dX8_fair_25 rfl (lv_at hl 3 rfl) ?_
        refine lv_bipush (v := nI 9) hx hb dX8_fair_26 (by decide) ?_
        refine lv_icmp_le (tgt := 34) hx hb dX8_fair_28 (by decide) (fun c_8 => ?_) (fun c_8 => ?_)
        · have c_8 : x3 ≤ 9 := c_8
          obtain ⟨t, ht0, ht, rfl⟩ := zRa_of (lo := 1) (hi := 9) (by decide) (by decide) (by assumption) (by assumption)
          refine lv_aload_n hx hb dX8_fair_34 rfl (lv_at hl 0 rfl) ?_
          refine z_get (ci := 8) (v := .ref v) Z zin8 hP 0 rfl rfl 8 (by decide) zm182 rfl rfl dX8_fair_35 ?_
          refine lv_aload_n hx hb dX8_fair_38 rfl (lv_at hl 0 rfl) ?_
          refine z_get (ci := 8) (v := .ref r) Z zin8 hP 0 rfl rfl 1 (by decide) zm175 rfl rfl dX8_fair_39 ?_
          refine lv_aload_n hx hb dX8_fair_42 rfl (lv_at hl 0 rfl) ?_
          refine z_get (ci := 8) (v := .ref a) Z zin8 hP 0 rfl rfl 2 (by decide) zm176 rfl rfl dX8_fair_43 ?_
          refine lv_iload_n hx hb dX8_fair_46 rfl (lv_at hl 1 rfl) ?_
          refine lv_iload_n hx hb dX8_fair_47 rfl (lv_at hl 2 rfl) ?_
          refine lv_iload_n hx hb dX8_fair_48 rfl (lv_at hl 3 rfl) ?_
          refine z_callVi (As := [.ref r, .ref a, .int (nI p), .int (nI k), .int (nI t)]) (rest := []) (ci := 1) (k0 := 0) Z hP hD hS hl.1 (zc_X1_fairPrize l D cI cZ v ch tf a3 r ro rn rr rt fr pr n m od a b f p k (nI t) (by omega) (by omega)) zm608 zm609 zm610 zm37 zm611 ⟨rfl, zd_X1_fairPrize⟩ ⟨Nat.le_of_ble_eq_true rfl, Nat.le_of_ble_eq_true rfl⟩ ⟨Nat.zero_le _, Nat.zero_le _⟩ [5, 1, 2, 3, 4] rfl (by decide) rfl rfl rfl (fun _ => rfl) rfl (Nat.le_of_ble_eq_true rfl) rfl dX8_fair_49 (fun r_9 u H locs h_10 hP hD hS => ?_)
          have hP : va_P D vwCl [(o, .inr (8, [.ref tx, .ref r, .ref a, .ref r2, .ref a2, .ref x, .ref y, .ref z, .ref v, .ref h, .long sd])), (r, .inr (3, [.ref ro, .ref rn, .ref rr, .int rt, .int fr, .int pr, .int (nI n), .int (nI m)])), (ro, .inl (cI, 4, .inl od)), (a, .inr (6, [.ref b])), (b, .inl (cI, 36, .inl f)), (v, .inr (1, [.ref a3, .int ch, .int tf]))] H := hP
          have hD : va_D A [(o, .inr (8, [.ref tx, .ref r, .ref a, .ref r2, .ref a2, .ref x, .ref y, .ref z, .ref v, .ref h, .long sd])), (r, .inr (3, [.ref ro, .ref rn, .ref rr, .int rt, .int fr, .int pr, .int (nI n), .int (nI m)])), (ro, .inl (cI, 4, .inl od)), (a, .inr (6, [.ref b])), (b, .inl (cI, 36, .inl f)), (v, .inr (1, [.ref a3, .int ch, .int tf]))] := hD
          have h_10 : r_9 = zfair f od rt fr p k (nI t) := h_10
          subst h_10
          exact z_iret Z () (by first | rw [zPa_n (by assumption)] | (rw [zPa_y hp hn]; first | rw [zKa_n (by assumption)] | (rw [zKa_y hk]; first | rw [zRa_lo (by assumption)] | rw [zRa_hi (by assumption)] | rw [zRa_y ht0 ht (by decide)]))) hP hS dX8_fair_52
        · have c_8 : ¬ (x3 ≤ 9) := c_8
          refine lv_bipush (v := -2) hx hb dX8_fair_31 (by decide) ?_
          exact z_iret Z () (by first | rw [zPa_n (by assumption)] | (rw [zPa_y hp hn]; first | rw [zKa_n (by assumption)] | (rw [zKa_y hk]; first | rw [zRa_lo (by assumption)] | rw [zRa_hi (by assumption)] | rw [zRa_y ht0 ht (by decide)]))) hP hS dX8_fair_33
  · have c_3 := zb0 c_3
    refine lv_iconst (v := -1) hx hb dX8_fair_11 (by decide) ?_
    exact z_iret Z () (by first | rw [zPa_n (by assumption)] | (rw [zPa_y hp hn]; first | rw [zKa_n (by assumption)] | (rw [zKa_y hk]; first | rw [zRa_lo (by assumption)] | rw [zRa_hi (by assumption)] | rw [zRa_y ht0 ht (by decide)]))) hP hS dX8_fair_12

theorem dX8_seed_0 : decode cX8_seed 0 = .ok (.aload_n 0, 1) := by decide +kernel
theorem dX8_seed_1 : decode cX8_seed 1 = .ok (.getfield 71, 3) := by decide +kernel
theorem dX8_seed_4 : decode cX8_seed 4 = .ok (.lstore_n 3, 1) := by decide +kernel
theorem dX8_seed_5 : decode cX8_seed 5 = .ok (.aload_n 0, 1) := by decide +kernel
theorem dX8_seed_6 : decode cX8_seed 6 = .ok (.lload_n 1, 1) := by decide +kernel
theorem dX8_seed_7 : decode cX8_seed 7 = .ok (.putfield 71, 3) := by decide +kernel
theorem dX8_seed_10 : decode cX8_seed 10 = .ok (.lload_n 3, 1) := by decide +kernel
theorem dX8_seed_11 : decode cX8_seed 11 = .ok (.lreturn, 1) := by decide +kernel
theorem zd_X8_seed : yX8_seed.cls ≠ "java/lang/invoke/MethodHandle" ∧ yX8_seed.cls ≠ "java/lang/invoke/VarHandle" ∧ (parseMethodDescriptor yX8_seed.desc).map (fun d => d.parameters.length) = some 1 := by decide +kernel
set_option maxHeartbeats 4000000 in
set_option maxRecDepth 100000 in
theorem zc_X8_seed (l : Launch) (D : va_G) (cI cZ : ClassId) (o : Nat) (tx : Nat) (r : Nat) (a : Nat) (r2 : Nat) (a2 : Nat) (x : Nat) (y : Nat) (z : Nat) (v : Nat) (h : Nat) (sd : Int64) (v1 : Int64) : zL l yX8_seed cX8_seed 5 .long 0 0 D cI cZ [.ref o, .long v1] [(o, .inr (8, [.ref tx, .ref r, .ref a, .ref r2, .ref a2, .ref x, .ref y, .ref z, .ref v, .ref h, .long sd]))] (fun (r : Int64) (u : Unit) => r = sd) (fun (u : Unit) => [(o, .inr (8, [.ref tx, .ref r, .ref a, .ref r2, .ref a2, .ref x, .ref y, .ref z, .ref v, .ref h, .long v1]))]) := by
  refine zL_of (by decide) (Nat.le_of_ble_eq_true rfl) ?_
  intro pP eE sS mM aA bB mT cC A ls Z hP hD hS hl
  have hx := Z.1
  have hb := Z.2.1
  have hown := Z.2.2.2.2.2.1
  have hts := Z.2.2.2.2.1
  have Z : zAt pP sS mM aA mT cC D cI cZ A "SurpriseTax" cX8_seed 5 (some .long) := Z
  have hl : lv_has ls 5 [(0, .ref o), (1, .long v1)] := hl
  obtain ⟨H, hH⟩ : ∃ H, H = sS.heap := ⟨_, rfl⟩
  have hP : va_P D vwCl [(o, .inr (8, [.ref tx, .ref r, .ref a, .ref r2, .ref a2, .ref x, .ref y, .ref z, .ref v, .ref h, .long sd]))] H := by rw [hH]; exact hP
  have hS : va_S A sS.heap H [] := by rw [hH]; exact hS
  rw [← hH]
  clear hH
  obtain ⟨locs, hlo⟩ : ∃ q : List Loc, q = [] := ⟨_, rfl⟩
  rw [← hlo] at hS ⊢
  clear hlo
  refine lv_aload_n hx hb dX8_seed_0 rfl (lv_at hl 0 rfl) ?_
  refine z_get (ci := 8) (v := .long sd) Z zin8 hP 0 rfl rfl 10 (by decide) zm184 rfl rfl dX8_seed_1 ?_
  refine lv_lstore_n (lv' := [(3, .long sd), (0, .ref o), (1, .long v1)]) hx hb dX8_seed_4 rfl hl (by decide) rfl (fun ls hl => ?_)
  refine lv_aload_n hx hb dX8_seed_5 rfl (lv_at hl 1 rfl) ?_
  refine lv_lload_n hx hb dX8_seed_6 rfl (lv_at hl 2 rfl) ?_
  refine z_put (ci := 8) (v := .long v1) Z zin8 tyX8 tyX8_ok nmX8 hP hD hS 0 rfl rfl 10 (by decide) zm184 rfl rfl rfl rfl (Nat.le_of_ble_eq_true rfl) dX8_seed_7 (fun H locs hP hD hS => ?_)
  have hP : va_P D vwCl [(o, .inr (8, [.ref tx, .ref r, .ref a, .ref r2, .ref a2, .ref x, .ref y, .ref z, .ref v, .ref h, .long v1]))] H := hP
  have hD : va_D A [(o, .inr (8, [.ref tx, .ref r, .ref a, .ref r2, .ref a2, .ref x, .ref y, .ref z, .ref v, .ref h, .long v1]))] := hD
  refine lv_lload_n hx hb dX8_seed_10 rfl (lv_at hl 0 rfl) ?_
  exact z_lret Z () rfl hP hS dX8_seed_11

theorem dX8_week_0 : decode cX8_week 0 = .ok (.iload_n 1, 1) := by decide +kernel
theorem dX8_week_1 : decode cX8_week 1 = .ok (.iconst 1, 1) := by decide +kernel
theorem dX8_week_2 : decode cX8_week 2 = .ok (.if_icmp .lt 9, 3) := by decide +kernel
theorem dX8_week_5 : decode cX8_week 5 = .ok (.iload_n 1, 1) := by decide +kernel
theorem dX8_week_6 : decode cX8_week 6 = .ok (.bipush 30, 2) := by decide +kernel
theorem dX8_week_8 : decode cX8_week 8 = .ok (.if_icmp .le 6, 3) := by decide +kernel
theorem dX8_week_11 : decode cX8_week 11 = .ok (.bipush (-2), 2) := by decide +kernel
theorem dX8_week_13 : decode cX8_week 13 = .ok (.ireturn, 1) := by decide +kernel
theorem dX8_week_14 : decode cX8_week 14 = .ok (.aload_n 0, 1) := by decide +kernel
theorem dX8_week_15 : decode cX8_week 15 = .ok (.getfield 67, 3) := by decide +kernel
theorem dX8_week_18 : decode cX8_week 18 = .ok (.aload_n 0, 1) := by decide +kernel
theorem dX8_week_19 : decode cX8_week 19 = .ok (.getfield 26, 3) := by decide +kernel
theorem dX8_week_22 : decode cX8_week 22 = .ok (.invokevirtual 252, 3) := by decide +kernel
theorem dX8_week_25 : decode cX8_week 25 = .ok (.iconst 0, 1) := by decide +kernel
theorem dX8_week_26 : decode cX8_week 26 = .ok (.istore_n 2, 1) := by decide +kernel
theorem dX8_week_27 : decode cX8_week 27 = .ok (.iload_n 2, 1) := by decide +kernel
theorem dX8_week_28 : decode cX8_week 28 = .ok (.iload_n 1, 1) := by decide +kernel
theorem dX8_week_29 : decode cX8_week 29 = .ok (.if_icmp .ge 47, 3) := by decide +kernel
theorem dX8_week_32 : decode cX8_week 32 = .ok (.aload_n 0, 1) := by decide +kernel
theorem dX8_week_33 : decode cX8_week 33 = .ok (.aload_n 0, 1) := by decide +kernel
theorem dX8_week_34 : decode cX8_week 34 = .ok (.getfield 71, 3) := by decide +kernel
theorem dX8_week_37 : decode cX8_week 37 = .ok (.ldc2_w 255, 3) := by decide +kernel
theorem dX8_week_40 : decode cX8_week 40 = .ok (.lmul, 1) := by decide +kernel
theorem dX8_week_41 : decode cX8_week 41 = .ok (.ldc2_w 257, 3) := by decide +kernel
theorem dX8_week_44 : decode cX8_week 44 = .ok (.ladd, 1) := by decide +kernel
theorem dX8_week_45 : decode cX8_week 45 = .ok (.putfield 71, 3) := by decide +kernel
theorem dX8_week_48 : decode cX8_week 48 = .ok (.aload_n 0, 1) := by decide +kernel
theorem dX8_week_49 : decode cX8_week 49 = .ok (.getfield 67, 3) := by decide +kernel
theorem dX8_week_52 : decode cX8_week 52 = .ok (.aload_n 0, 1) := by decide +kernel
theorem dX8_week_53 : decode cX8_week 53 = .ok (.getfield 19, 3) := by decide +kernel
theorem dX8_week_56 : decode cX8_week 56 = .ok (.aload_n 0, 1) := by decide +kernel
theorem dX8_week_57 : decode cX8_week 57 = .ok (.getfield 19, 3) := by decide +kernel
theorem dX8_week_60 : decode cX8_week 60 = .ok (.aload_n 0, 1) := by decide +kernel
theorem dX8_week_61 : decode cX8_week 61 = .ok (.getfield 71, 3) := by decide +kernel
theorem dX8_week_64 : decode cX8_week 64 = .ok (.invokevirtual 259, 3) := by decide +kernel
theorem dX8_week_67 : decode cX8_week 67 = .ok (.invokevirtual 263, 3) := by decide +kernel
theorem dX8_week_70 : decode cX8_week 70 = .ok (.iinc 2 1, 3) := by decide +kernel
theorem dX8_week_73 : decode cX8_week 73 = .ok (.goto (-46), 3) := by decide +kernel
theorem dX8_week_76 : decode cX8_week 76 = .ok (.aload_n 0, 1) := by decide +kernel
theorem dX8_week_77 : decode cX8_week 77 = .ok (.getfield 67, 3) := by decide +kernel
theorem dX8_week_80 : decode cX8_week 80 = .ok (.aload_n 0, 1) := by decide +kernel
theorem dX8_week_81 : decode cX8_week 81 = .ok (.getfield 19, 3) := by decide +kernel
theorem dX8_week_84 : decode cX8_week 84 = .ok (.invokevirtual 267, 3) := by decide +kernel
theorem dX8_week_87 : decode cX8_week 87 = .ok (.ldc_w 271, 3) := by decide +kernel
theorem dX8_week_90 : decode cX8_week 90 = .ok (.iadd, 1) := by decide +kernel
theorem dX8_week_91 : decode cX8_week 91 = .ok (.ireturn, 1) := by decide +kernel
theorem zd_X8_week : yX8_week.cls ≠ "java/lang/invoke/MethodHandle" ∧ yX8_week.cls ≠ "java/lang/invoke/VarHandle" ∧ (parseMethodDescriptor yX8_week.desc).map (fun d => d.parameters.length) = some 1 := by decide +kernel
set_option maxHeartbeats 4000000 in
set_option maxRecDepth 100000 in
theorem zc_X8_week (l : Launch) (D : va_G) (cI cZ : ClassId) (o : Nat) (tx : Nat) (r : Nat) (a : Nat) (r2 : Nat) (a2 : Nat) (x : Nat) (y : Nat) (z : Nat) (v : Nat) (h : Nat) (sd : Int64) (ro : Nat) (rn : Nat) (rr : Nat) (rt : Int32) (fr : Int32) (pr : Int32) (n : Nat) (m : Nat) (od : Nat → Int32) (b : Nat) (f : Nat → Int32) (jr : Int32) (a4 : Nat) (b4 : Nat) (g4 : Nat → Int32) (x1 : Int32) (hn : n ≤ 5) : zI l yX8_week cX8_week 3 .int 5 110 D cI cZ [.ref o, .int x1] [(o, .inr (8, [.ref tx, .ref r, .ref a, .ref r2, .ref a2, .ref x, .ref y, .ref z, .ref v, .ref h, .long sd])), (r, .inr (3, [.ref ro, .ref rn, .ref rr, .int rt, .int fr, .int pr, .int (nI n), .int (nI m)])), (ro, .inl (cI, 4, .inl od)), (a, .inr (6, [.ref b])), (b, .inl (cI, 36, .inl f)), (h, .inr (2, [.ref a4, .int jr])), (a4, .inr (6, [.ref b4])), (b4, .inl (cI, 36, .inl g4))] (fun (r : Int32) (u : (Nat → Int32)) => r = zRa 1 30 x1 (fun w => zco (zwkG od f rt fr n sd w) n + 1000000) (-2)) (fun (u : (Nat → Int32)) => [(o, .inr (8, [.ref tx, .ref r, .ref a, .ref r2, .ref a2, .ref x, .ref y, .ref z, .ref v, .ref h, .long (zRa 1 30 x1 (fun w => zwkS sd w) sd)])), (r, .inr (3, [.ref ro, .ref rn, .ref rr, .int rt, .int fr, .int pr, .int (nI n), .int (nI m)])), (ro, .inl (cI, 4, .inl od)), (a, .inr (6, [.ref b])), (b, .inl (cI, 36, .inl f)), (h, .inr (2, [.ref a4, .int jr])), (a4, .inr (6, [.ref b4])), (b4, .inl (cI, 36, .inl u))]) := by
  refine zI_of (by decide) (Nat.le_of_ble_eq_true rfl) ?_
  intro pP eE sS mM aA bB mT cC A ls Z hP hD hS hl
  have hx := Z.1
  have hb := Z.2.1
  have hown := Z.2.2.2.2.2.1
  have hts := Z.2.2.2.2.1
  have Z : zAt pP sS mM aA mT cC D cI cZ A "SurpriseTax" cX8_week 3 (some .int) := Z
  have hl : lv_has ls 3 [(0, .ref o), (1, .int x1)] := hl
  obtain ⟨H, hH⟩ : ∃ H, H = sS.heap := ⟨_, rfl⟩
  have hP : va_P D vwCl [(o, .inr (8, [.ref tx, .ref r, .ref a, .ref r2, .ref a2, .ref x, .ref y, .ref z, .ref v, .ref h, .long sd])), (r, .inr (3, [.ref ro, .ref rn, .ref rr, .int rt, .int fr, .int pr, .int (nI n), .int (nI m)])), (ro, .inl (cI, 4, .inl od)), (a, .inr (6, [.ref b])), (b, .inl (cI, 36, .inl f)), (h, .inr (2, [.ref a4, .int jr])), (a4, .inr (6, [.ref b4])), (b4, .inl (cI, 36, .inl g4))] H := by rw [hH]; exact hP
  have hS : va_S A sS.heap H [] := by rw [hH]; exact hS
  rw [← hH]
  clear hH
  obtain ⟨locs, hlo⟩ : ∃ q : List Loc, q = [] := ⟨_, rfl⟩
  rw [← hlo] at hS ⊢
  clear hlo
  refine lv_iload_n hx hb dX8_week_0 rfl (lv_at hl 1 rfl) ?_
  refine lv_iconst (v := nI 1) hx hb dX8_week_1 (by decide) ?_
  refine lv_icmp_lt (tgt := 11) hx hb dX8_week_2 (by decide) (fun c_1 => ?_) (fun c_1 => ?_)
  · have c_1 : x1 < 1 := c_1
    refine lv_bipush (v := -2) hx hb dX8_week_11 (by decide) ?_
    have e_2 : sd = zRa 1 30 x1 (fun w => zwkS sd w) sd := by first | rw [zRa_lo (by assumption)] | rw [zRa_hi (by assumption)] | rw [zRa_y hw1 hw (by decide)]
    have hP : va_P D vwCl [(o, .inr (8, [.ref tx, .ref r, .ref a, .ref r2, .ref a2, .ref x, .ref y, .ref z, .ref v, .ref h, .long (zRa 1 30 x1 (fun w => zwkS sd w) sd)])), (r, .inr (3, [.ref ro, .ref rn, .ref rr, .int rt, .int fr, .int pr, .int (nI n), .int (nI m)])), (ro, .inl (cI, 4, .inl od)), (a, .inr (6, [.ref b])), (b, .inl (cI, 36, .inl f)), (h, .inr (2, [.ref a4, .int jr])), (a4, .inr (6, [.ref b4])), (b4, .inl (cI, 36, .inl g4))] H := Eq.subst (motive := fun zz_ => va_P D vwCl [(o, .inr (8, [.ref tx, .ref r, .ref a, .ref r2, .ref a2, .ref x, .ref y, .ref z, .ref v, .ref h, .long zz_])), (r, .inr (3, [.ref ro, .ref rn, .ref rr, .int rt, .int fr, .int pr, .int (nI n), .int (nI m)])), (ro, .inl (cI, 4, .inl od)), (a, .inr (6, [.ref b])), (b, .inl (cI, 36, .inl f)), (h, .inr (2, [.ref a4, .int jr])), (a4, .inr (6, [.ref b4])), (b4, .inl (cI, 36, .inl g4))] H) e_2 hP
    have hD : va_D A [(o, .inr (8, [.ref tx, .ref r, .ref a, .ref r2, .ref a2, .ref x, .ref y, .ref z, .ref v, .ref h, .long (zRa 1 30 x1 (fun w => zwkS sd w) sd)])), (r, .inr (3, [.ref ro, .ref rn, .ref rr, .int rt, .int fr, .int pr, .int (nI n), .int (nI m)])), (ro, .inl (cI, 4, .inl od)), (a, .inr (6, [.ref b])), (b, .inl (cI, 36, .inl f)), (h, .inr (2, [.ref a4, .int jr])), (a4, .inr (6, [.ref b4])), (b4, .inl (cI, 36, .inl g4))] := zD_of hD rfl
    exact z_iret Z (g4) (by first | rw [zRa_lo (by assumption)] | rw [zRa_hi (by assumption)] | rw [zRa_y hw1 hw (by decide)]) hP hS dX8_week_13
  · have c_1 : ¬ (x1 < 1) := c_1
    refine lv_iload_n hx hb dX8_week_5 rfl (lv_at hl 1 rfl) ?_
    refine lv_bipush (v := nI 30) hx hb dX8_week_6 (by decide) ?_
    refine lv_icmp_le (tgt := 14) hx hb dX8_week_8 (by decide) (fun c_3 => ?_) (fun c_3 => ?_)
    · have c_3 : x1 ≤ 30 := c_3
      obtain ⟨w, hw1, hw, rfl⟩ := zRa_of (lo := 1) (hi := 30) (by decide) (by decide) (by assumption) (by assumption)
      refine lv_aload_n hx hb dX8_week_14 rfl (lv_at hl 0 rfl) ?_
      refine z_get (ci := 8) (v := .ref h) Z zin8 hP 0 rfl rfl 9 (by decide) zm183 rfl rfl dX8_week_15 ?_
      refine lv_aload_n hx hb dX8_week_18 rfl (lv_at hl 0 rfl) ?_
      refine z_get (ci := 8) (v := .ref a) Z zin8 hP 0 rfl rfl 2 (by decide) zm176 rfl rfl dX8_week_19 ?_
      refine z_callVv (As := [.ref a]) (rest := []) (ci := 2) (k0 := 0) Z hP hD hS hl.1 (zc_X2_begin l D cI cZ h jr a4 b4 g4 a b f ) zm628 zm629 zm630 zm38 zm631 ⟨rfl, zd_X2_begin⟩ ⟨Nat.le_of_ble_eq_true rfl, Nat.le_of_ble_eq_true rfl⟩ ⟨Nat.zero_le _, Nat.zero_le _⟩ [5, 6, 7, 3, 4] rfl (by decide) rfl rfl rfl (fun _ => rfl) rfl (Nat.le_of_ble_eq_true rfl) rfl dX8_week_22 (fun u H locs h_5 hP hD hS => ?_)
      have hP : va_P D vwCl [(o, .inr (8, [.ref tx, .ref r, .ref a, .ref r2, .ref a2, .ref x, .ref y, .ref z, .ref v, .ref h, .long sd])), (r, .inr (3, [.ref ro, .ref rn, .ref rr, .int rt, .int fr, .int pr, .int (nI n), .int (nI m)])), (ro, .inl (cI, 4, .inl od)), (a, .inr (6, [.ref b])), (b, .inl (cI, 36, .inl f)), (h, .inr (2, [.ref a4, .int jr])), (a4, .inr (6, [.ref b4])), (b4, .inl (cI, 36, .inl f))] H := hP
      have hD : va_D A [(o, .inr (8, [.ref tx, .ref r, .ref a, .ref r2, .ref a2, .ref x, .ref y, .ref z, .ref v, .ref h, .long sd])), (r, .inr (3, [.ref ro, .ref rn, .ref rr, .int rt, .int fr, .int pr, .int (nI n), .int (nI m)])), (ro, .inl (cI, 4, .inl od)), (a, .inr (6, [.ref b])), (b, .inl (cI, 36, .inl f)), (h, .inr (2, [.ref a4, .int jr])), (a4, .inr (6, [.ref b4])), (b4, .inl (cI, 36, .inl f))] := hD
      refine lv_iconst (v := nI 0) hx hb dX8_week_25 (by decide) ?_
      refine lv_istore_n (lv' := [(2, .int (nI 0)), (0, .ref o), (1, .int (nI w))]) hx hb dX8_week_26 rfl hl (by decide) rfl (fun ls hl => ?_)
      have e_7 : sd = zwkS sd 0 := by rfl
      have hP : va_P D vwCl [(o, .inr (8, [.ref tx, .ref r, .ref a, .ref r2, .ref a2, .ref x, .ref y, .ref z, .ref v, .ref h, .long (zwkS sd 0)])), (r, .inr (3, [.ref ro, .ref rn, .ref rr, .int rt, .int fr, .int pr, .int (nI n), .int (nI m)])), (ro, .inl (cI, 4, .inl od)), (a, .inr (6, [.ref b])), (b, .inl (cI, 36, .inl f)), (h, .inr (2, [.ref a4, .int jr])), (a4, .inr (6, [.ref b4])), (b4, .inl (cI, 36, .inl f))] H := Eq.subst (motive := fun zz_ => va_P D vwCl [(o, .inr (8, [.ref tx, .ref r, .ref a, .ref r2, .ref a2, .ref x, .ref y, .ref z, .ref v, .ref h, .long zz_])), (r, .inr (3, [.ref ro, .ref rn, .ref rr, .int rt, .int fr, .int pr, .int (nI n), .int (nI m)])), (ro, .inl (cI, 4, .inl od)), (a, .inr (6, [.ref b])), (b, .inl (cI, 36, .inl f)), (h, .inr (2, [.ref a4, .int jr])), (a4, .inr (6, [.ref b4])), (b4, .inl (cI, 36, .inl f))] H) e_7 hP
      have e_8 : f = zwkG od f rt fr n sd 0 := by rfl
      have hP : va_P D vwCl [(o, .inr (8, [.ref tx, .ref r, .ref a, .ref r2, .ref a2, .ref x, .ref y, .ref z, .ref v, .ref h, .long (zwkS sd 0)])), (r, .inr (3, [.ref ro, .ref rn, .ref rr, .int rt, .int fr, .int pr, .int (nI n), .int (nI m)])), (ro, .inl (cI, 4, .inl od)), (a, .inr (6, [.ref b])), (b, .inl (cI, 36, .inl f)), (h, .inr (2, [.ref a4, .int jr])), (a4, .inr (6, [.ref b4])), (b4, .inl (cI, 36, .inl (zwkG od f rt fr n sd 0)))] H := Eq.subst (motive := fun zz_ => va_P D vwCl [(o, .inr (8, [.ref tx, .ref r, .ref a, .ref r2, .ref a2, .ref x, .ref y, .ref z, .ref v, .ref h, .long (zwkS sd 0)])), (r, .inr (3, [.ref ro, .ref rn, .ref rr, .int rt, .int fr, .int pr, .int (nI n), .int (nI m)])), (ro, .inl (cI, 4, .inl od)), (a, .inr (6, [.ref b])), (b, .inl (cI, 36, .inl f)), (h, .inr (2, [.ref a4, .int jr])), (a4, .inr (6, [.ref b4])), (b4, .inl (cI, 36, .inl zz_))] H) e_8 hP
      have hD : va_D A [(o, .inr (8, [.ref tx, .ref r, .ref a, .ref r2, .ref a2, .ref x, .ref y, .ref z, .ref v, .ref h, .long (zwkS sd 0)])), (r, .inr (3, [.ref ro, .ref rn, .ref rr, .int rt, .int fr, .int pr, .int (nI n), .int (nI m)])), (ro, .inl (cI, 4, .inl od)), (a, .inr (6, [.ref b])), (b, .inl (cI, 36, .inl f)), (h, .inr (2, [.ref a4, .int jr])), (a4, .inr (6, [.ref b4])), (b4, .inl (cI, 36, .inl (zwkG od f rt fr n sd 0)))] := zD_of hD rfl
      have hl : lv_has ls 3 [(2, .int (nI 0)), (0, .ref o), (1, .int (nI w))] := lv_sub hl [0, 1, 2] rfl
      refine z_loop (fun i H locs ls => va_P D vwCl [(o, .inr (8, [.ref tx, .ref r, .ref a, .ref r2, .ref a2, .ref x, .ref y, .ref z, .ref v, .ref h, .long (zwkS sd i)])), (r, .inr (3, [.ref ro, .ref rn, .ref rr, .int rt, .int fr, .int pr, .int (nI n), .int (nI m)])), (ro, .inl (cI, 4, .inl od)), (a, .inr (6, [.ref b])), (b, .inl (cI, 36, .inl f)), (h, .inr (2, [.ref a4, .int jr])), (a4, .inr (6, [.ref b4])), (b4, .inl (cI, 36, .inl (zwkG od f rt fr n sd i)))] H ∧ va_D A [(o, .inr (8, [.ref tx, .ref r, .ref a, .ref r2, .ref a2, .ref x, .ref y, .ref z, .ref v, .ref h, .long (zwkS sd i)])), (r, .inr (3, [.ref ro, .ref rn, .ref rr, .int rt, .int fr, .int pr, .int (nI n), .int (nI m)])), (ro, .inl (cI, 4, .inl od)), (a, .inr (6, [.ref b])), (b, .inl (cI, 36, .inl f)), (h, .inr (2, [.ref a4, .int jr])), (a4, .inr (6, [.ref b4])), (b4, .inl (cI, 36, .inl (zwkG od f rt fr n sd i)))] ∧ va_S A sS.heap H locs ∧ lv_has ls 3 [(2, .int (nI i)), (0, .ref o), (1, .int (nI w))]) (w) (lo := 0) (by omega) ⟨hP, hD, hS, hl⟩ (fun i hi_i ih_6 H locs ls hI => ?_)
      obtain ⟨hP, hD, hS, hl⟩ := hI
      have hP : va_P D vwCl [(o, .inr (8, [.ref tx, .ref r, .ref a, .ref r2, .ref a2, .ref x, .ref y, .ref z, .ref v, .ref h, .long (zwkS sd i)])), (r, .inr (3, [.ref ro, .ref rn, .ref rr, .int rt, .int fr, .int pr, .int (nI n), .int (nI m)])), (ro, .inl (cI, 4, .inl od)), (a, .inr (6, [.ref b])), (b, .inl (cI, 36, .inl f)), (h, .inr (2, [.ref a4, .int jr])), (a4, .inr (6, [.ref b4])), (b4, .inl (cI, 36, .inl (zwkG od f rt fr n sd i)))] H := hP
      have hD : va_D A [(o, .inr (8, [.ref tx, .ref r, .ref a, .ref r2, .ref a2, .ref x, .ref y, .ref z, .ref v, .ref h, .long (zwkS sd i)])), (r, .inr (3, [.ref ro, .ref rn, .ref rr, .int rt, .int fr, .int pr, .int (nI n), .int (nI m)])), (ro, .inl (cI, 4, .inl od)), (a, .inr (6, [.ref b])), (b, .inl (cI, 36, .inl f)), (h, .inr (2, [.ref a4, .int jr])), (a4, .inr (6, [.ref b4])), (b4, .inl (cI, 36, .inl (zwkG od f rt fr n sd i)))] := hD
      have hl : lv_has ls 3 [(2, .int (nI i)), (0, .ref o), (1, .int (nI w))] := hl
      refine lv_iload_n hx hb dX8_week_27 rfl (lv_at hl 0 rfl) ?_
      refine lv_iload_n hx hb dX8_week_28 rfl (lv_at hl 2 rfl) ?_
      refine lv_icmp_ge (tgt := 76) hx hb dX8_week_29 (by decide) (fun c_9 => ?_) (fun c_9 => ?_)
      · have c_9 := zle (i := w) (j := i) (by omega) (by omega) c_9
        have hE_ : w = i := by omega
        subst hE_
        refine lv_aload_n hx hb dX8_week_76 rfl (lv_at hl 1 rfl) ?_
        refine z_get (ci := 8) (v := .ref h) Z zin8 hP 0 rfl rfl 9 (by decide) zm183 rfl rfl dX8_week_77 ?_
        refine lv_aload_n hx hb dX8_week_80 rfl (lv_at hl 1 rfl) ?_
        refine z_get (ci := 8) (v := .ref r) Z zin8 hP 0 rfl rfl 1 (by decide) zm175 rfl rfl dX8_week_81 ?_
        refine z_callVi (As := [.ref r]) (rest := []) (ci := 2) (k0 := 0) Z hP hD hS hl.1 (zc_X2_coinsOfAll l D cI cZ h jr a4 b4 (zwkG od f rt fr n sd w) r ro rn rr rt fr pr n m (by omega)) zm643 zm644 zm645 zm38 zm646 ⟨rfl, zd_X2_coinsOfAll⟩ ⟨Nat.le_of_ble_eq_true rfl, Nat.le_of_ble_eq_true rfl⟩ ⟨Nat.zero_le _, Nat.zero_le _⟩ [5, 6, 7, 1] rfl (by decide) rfl rfl rfl (fun _ => rfl) rfl (Nat.le_of_ble_eq_true rfl) rfl dX8_week_84 (fun r_10 u H locs h_11 hP hD hS => ?_)
        have hP : va_P D vwCl [(o, .inr (8, [.ref tx, .ref r, .ref a, .ref r2, .ref a2, .ref x, .ref y, .ref z, .ref v, .ref h, .long (zwkS sd w)])), (r, .inr (3, [.ref ro, .ref rn, .ref rr, .int rt, .int fr, .int pr, .int (nI n), .int (nI m)])), (ro, .inl (cI, 4, .inl od)), (a, .inr (6, [.ref b])), (b, .inl (cI, 36, .inl f)), (h, .inr (2, [.ref a4, .int jr])), (a4, .inr (6, [.ref b4])), (b4, .inl (cI, 36, .inl (zwkG od f rt fr n sd w)))] H := hP
        have hD : va_D A [(o, .inr (8, [.ref tx, .ref r, .ref a, .ref r2, .ref a2, .ref x, .ref y, .ref z, .ref v, .ref h, .long (zwkS sd w)])), (r, .inr (3, [.ref ro, .ref rn, .ref rr, .int rt, .int fr, .int pr, .int (nI n), .int (nI m)])), (ro, .inl (cI, 4, .inl od)), (a, .inr (6, [.ref b])), (b, .inl (cI, 36, .inl f)), (h, .inr (2, [.ref a4, .int jr])), (a4, .inr (6, [.ref b4])), (b4, .inl (cI, 36, .inl (zwkG od f rt fr n sd w)))] := hD
        have h_11 : r_10 = zco (zwkG od f rt fr n sd w) n := h_11
        subst h_11
        refine lv_ldcw (v := 1000000) hx hb hown (hts _ zm648) dX8_week_87 ?_
        refine lv_iadd hx hb dX8_week_90 ?_
        refine z_top (y := (zco (zwkG od f rt fr n sd w) n) + 1000000) rfl ?_
        have e_12 : zwkS sd w = zRa 1 30 (nI w) (fun w => zwkS sd w) sd := by first | rw [zRa_lo (by assumption)] | rw [zRa_hi (by assumption)] | rw [zRa_y hw1 hw (by decide)]
        have hP : va_P D vwCl [(o, .inr (8, [.ref tx, .ref r, .ref a, .ref r2, .ref a2, .ref x, .ref y, .ref z, .ref v, .ref h, .long (zRa 1 30 (nI w) (fun w => zwkS sd w) sd)])), (r, .inr (3, [.ref ro, .ref rn, .ref rr, .int rt, .int fr, .int pr, .int (nI n), .int (nI m)])), (ro, .inl (cI, 4, .inl od)), (a, .inr (6, [.ref b])), (b, .inl (cI, 36, .inl f)), (h, .inr (2, [.ref a4, .int jr])), (a4, .inr (6, [.ref b4])), (b4, .inl (cI, 36, .inl (zwkG od f rt fr n sd w)))] H := Eq.subst (motive := fun zz_ => va_P D vwCl [(o, .inr (8, [.ref tx, .ref r, .ref a, .ref r2, .ref a2, .ref x, .ref y, .ref z, .ref v, .ref h, .long zz_])), (r, .inr (3, [.ref ro, .ref rn, .ref rr, .int rt, .int fr, .int pr, .int (nI n), .int (nI m)])), (ro, .inl (cI, 4, .inl od)), (a, .inr (6, [.ref b])), (b, .inl (cI, 36, .inl f)), (h, .inr (2, [.ref a4, .int jr])), (a4, .inr (6, [.ref b4])), (b4, .inl (cI, 36, .inl (zwkG od f rt fr n sd w)))] H) e_12 hP
        have hD : va_D A [(o, .inr (8, [.ref tx, .ref r, .ref a, .ref r2, .ref a2, .ref x, .ref y, .ref z, .ref v, .ref h, .long (zRa 1 30 (nI w) (fun w => zwkS sd w) sd)])), (r, .inr (3, [.ref ro, .ref rn, .ref rr, .int rt, .int fr, .int pr, .int (nI n), .int (nI m)])), (ro, .inl (cI, 4, .inl od)), (a, .inr (6, [.ref b])), (b, .inl (cI, 36, .inl f)), (h, .inr (2, [.ref a4, .int jr])), (a4, .inr (6, [.ref b4])), (b4, .inl (cI, 36, .inl (zwkG od f rt fr n sd w)))] := zD_of hD rfl
        exact z_iret Z (zwkG od f rt fr n sd w) (by first | rw [zRa_lo (by assumption)] | rw [zRa_hi (by assumption)] | rw [zRa_y hw1 hw (by decide)]) hP hS dX8_week_91
      · have c_9 := znle (i := w) (j := i) (by omega) (by omega) c_9
        refine lv_aload_n hx hb dX8_week_32 rfl (lv_at hl 1 rfl) ?_
        refine lv_aload_n hx hb dX8_week_33 rfl (lv_at hl 1 rfl) ?_
        refine z_get (ci := 8) (v := .long (zwkS sd i)) Z zin8 hP 0 rfl rfl 10 (by decide) zm184 rfl rfl dX8_week_34 ?_
        refine lv_ldc2 (v := 6364136223846793005) hx hb hown (hts _ zm632) dX8_week_37 ?_
        refine lv_lmul hx hb dX8_week_40 ?_
        refine lv_ldc2 (v := 1442695040888963407) hx hb hown (hts _ zm633) dX8_week_41 ?_
        refine lv_ladd hx hb dX8_week_44 ?_
        refine z_topl (y := zwkS sd (i + 1)) (rfl) ?_
        refine z_put (ci := 8) (v := .long (zwkS sd (i + 1))) Z zin8 tyX8 tyX8_ok nmX8 hP hD hS 0 rfl rfl 10 (by decide) zm184 rfl rfl rfl rfl (Nat.le_of_ble_eq_true rfl) dX8_week_45 (fun H locs hP hD hS => ?_)
        have hP : va_P D vwCl [(o, .inr (8, [.ref tx, .ref r, .ref a, .ref r2, .ref a2, .ref x, .ref y, .ref z, .ref v, .ref h, .long (zwkS sd (i + 1))])), (r, .inr (3, [.ref ro, .ref rn, .ref rr, .int rt, .int fr, .int pr, .int (nI n), .int (nI m)])), (ro, .inl (cI, 4, .inl od)), (a, .inr (6, [.ref b])), (b, .inl (cI, 36, .inl f)), (h, .inr (2, [.ref a4, .int jr])), (a4, .inr (6, [.ref b4])), (b4, .inl (cI, 36, .inl (zwkG od f rt fr n sd i)))] H := hP
        have hD : va_D A [(o, .inr (8, [.ref tx, .ref r, .ref a, .ref r2, .ref a2, .ref x, .ref y, .ref z, .ref v, .ref h, .long (zwkS sd (i + 1))])), (r, .inr (3, [.ref ro, .ref rn, .ref rr, .int rt, .int fr, .int pr, .int (nI n), .int (nI m)])), (ro, .inl (cI, 4, .inl od)), (a, .inr (6, [.ref b])), (b, .inl (cI, 36, .inl f)), (h, .inr (2, [.ref a4, .int jr])), (a4, .inr (6, [.ref b4])), (b4, .inl (cI, 36, .inl (zwkG od f rt fr n sd i)))] := hD
        refine lv_aload_n hx hb dX8_week_48 rfl (lv_at hl 1 rfl) ?_
        refine z_get (ci := 8) (v := .ref h) Z zin8 hP 0 rfl rfl 9 (by decide) zm183 rfl rfl dX8_week_49 ?_
        refine lv_aload_n hx hb dX8_week_52 rfl (lv_at hl 1 rfl) ?_
        refine z_get (ci := 8) (v := .ref r) Z zin8 hP 0 rfl rfl 1 (by decide) zm175 rfl rfl dX8_week_53 ?_
        refine lv_aload_n hx hb dX8_week_56 rfl (lv_at hl 1 rfl) ?_
        refine z_get (ci := 8) (v := .ref r) Z zin8 hP 0 rfl rfl 1 (by decide) zm175 rfl rfl dX8_week_57 ?_
        refine lv_aload_n hx hb dX8_week_60 rfl (lv_at hl 1 rfl) ?_
        refine z_get (ci := 8) (v := .long (zwkS sd (i + 1))) Z zin8 hP 0 rfl rfl 10 (by decide) zm184 rfl rfl dX8_week_61 ?_
        refine z_callVi (As := [.long (zwkS sd (i + 1))]) (rest := [.ref r, .ref h]) (ci := 3) (k0 := 0) Z hP hD hS hl.1 (zc_X3_drawnBy l D cI cZ r ro rn rr rt fr pr n m od (zwkS sd (i + 1)) ) zm634 zm635 zm636 zm32 zm637 ⟨rfl, zd_X3_drawnBy⟩ ⟨Nat.le_of_ble_eq_true rfl, Nat.le_of_ble_eq_true rfl⟩ ⟨Nat.zero_le _, Nat.zero_le _⟩ [1, 2] rfl (by decide) rfl rfl rfl (fun _ => rfl) rfl (Nat.le_of_ble_eq_true rfl) rfl dX8_week_64 (fun r_13 u H locs h_14 hP hD hS => ?_)
        have hP : va_P D vwCl [(o, .inr (8, [.ref tx, .ref r, .ref a, .ref r2, .ref a2, .ref x, .ref y, .ref z, .ref v, .ref h, .long (zwkS sd (i + 1))])), (r, .inr (3, [.ref ro, .ref rn, .ref rr, .int rt, .int fr, .int pr, .int (nI n), .int (nI m)])), (ro, .inl (cI, 4, .inl od)), (a, .inr (6, [.ref b])), (b, .inl (cI, 36, .inl f)), (h, .inr (2, [.ref a4, .int jr])), (a4, .inr (6, [.ref b4])), (b4, .inl (cI, 36, .inl (zwkG od f rt fr n sd i)))] H := hP
        have hD : va_D A [(o, .inr (8, [.ref tx, .ref r, .ref a, .ref r2, .ref a2, .ref x, .ref y, .ref z, .ref v, .ref h, .long (zwkS sd (i + 1))])), (r, .inr (3, [.ref ro, .ref rn, .ref rr, .int rt, .int fr, .int pr, .int (nI n), .int (nI m)])), (ro, .inl (cI, 4, .inl od)), (a, .inr (6, [.ref b])), (b, .inl (cI, 36, .inl f)), (h, .inr (2, [.ref a4, .int jr])), (a4, .inr (6, [.ref b4])), (b4, .inl (cI, 36, .inl (zwkG od f rt fr n sd i)))] := hD
        have h_14 : r_13 = nI (zdw od (zdr (zwkS sd (i + 1)))) := h_14
        subst h_14
        have hzw := zdw_lt od (zdr (zwkS sd (i + 1)))
        refine z_callVv (As := [.ref r, .int (nI (zdw od (zdr (zwkS sd (i + 1)))))]) (rest := []) (ci := 2) (k0 := 0) Z hP hD hS hl.1 (zc_X2_play l D cI cZ h jr a4 b4 (zwkG od f rt fr n sd i) r ro rn rr rt fr pr n m (zdw od (zdr (zwkS sd (i + 1)))) (by omega) (by omega)) zm639 zm640 zm641 zm38 zm642 ⟨rfl, zd_X2_play⟩ ⟨Nat.le_of_ble_eq_true rfl, Nat.le_of_ble_eq_true rfl⟩ ⟨Nat.zero_le _, Nat.zero_le _⟩ [5, 6, 7, 1] rfl (by decide) rfl rfl rfl (fun _ => rfl) rfl (Nat.le_of_ble_eq_true rfl) rfl dX8_week_67 (fun u H locs h_16 hP hD hS => ?_)
        have hP : va_P D vwCl [(o, .inr (8, [.ref tx, .ref r, .ref a, .ref r2, .ref a2, .ref x, .ref y, .ref z, .ref v, .ref h, .long (zwkS sd (i + 1))])), (r, .inr (3, [.ref ro, .ref rn, .ref rr, .int rt, .int fr, .int pr, .int (nI n), .int (nI m)])), (ro, .inl (cI, 4, .inl od)), (a, .inr (6, [.ref b])), (b, .inl (cI, 36, .inl f)), (h, .inr (2, [.ref a4, .int jr])), (a4, .inr (6, [.ref b4])), (b4, .inl (cI, 36, .inl (zcome (zwkG od f rt fr n sd i) rt fr n (zdw od (zdr (zwkS sd (i + 1)))))))] H := hP
        have hD : va_D A [(o, .inr (8, [.ref tx, .ref r, .ref a, .ref r2, .ref a2, .ref x, .ref y, .ref z, .ref v, .ref h, .long (zwkS sd (i + 1))])), (r, .inr (3, [.ref ro, .ref rn, .ref rr, .int rt, .int fr, .int pr, .int (nI n), .int (nI m)])), (ro, .inl (cI, 4, .inl od)), (a, .inr (6, [.ref b])), (b, .inl (cI, 36, .inl f)), (h, .inr (2, [.ref a4, .int jr])), (a4, .inr (6, [.ref b4])), (b4, .inl (cI, 36, .inl (zcome (zwkG od f rt fr n sd i) rt fr n (zdw od (zdr (zwkS sd (i + 1)))))))] := hD
        refine lv_iinc (v := nI (i + 1)) (lv' := [(2, .int (nI (i + 1))), (0, .ref o), (1, .int (nI w))]) hx hb dX8_week_70 hl (k := 0) rfl (z_inc _ 1) (by decide) rfl (fun ls hl => ?_)
        refine lv_goto (tgt := 27) hx hb dX8_week_73 (by decide) ?_
        have e_17 : zcome (zwkG od f rt fr n sd i) rt fr n (zdw od (zdr (zwkS sd (i + 1)))) = zwkG od f rt fr n sd (i + 1) := by rfl
        have hP : va_P D vwCl [(o, .inr (8, [.ref tx, .ref r, .ref a, .ref r2, .ref a2, .ref x, .ref y, .ref z, .ref v, .ref h, .long (zwkS sd (i + 1))])), (r, .inr (3, [.ref ro, .ref rn, .ref rr, .int rt, .int fr, .int pr, .int (nI n), .int (nI m)])), (ro, .inl (cI, 4, .inl od)), (a, .inr (6, [.ref b])), (b, .inl (cI, 36, .inl f)), (h, .inr (2, [.ref a4, .int jr])), (a4, .inr (6, [.ref b4])), (b4, .inl (cI, 36, .inl (zwkG od f rt fr n sd (i + 1))))] H := Eq.subst (motive := fun zz_ => va_P D vwCl [(o, .inr (8, [.ref tx, .ref r, .ref a, .ref r2, .ref a2, .ref x, .ref y, .ref z, .ref v, .ref h, .long (zwkS sd (i + 1))])), (r, .inr (3, [.ref ro, .ref rn, .ref rr, .int rt, .int fr, .int pr, .int (nI n), .int (nI m)])), (ro, .inl (cI, 4, .inl od)), (a, .inr (6, [.ref b])), (b, .inl (cI, 36, .inl f)), (h, .inr (2, [.ref a4, .int jr])), (a4, .inr (6, [.ref b4])), (b4, .inl (cI, 36, .inl zz_))] H) e_17 hP
        have hD : va_D A [(o, .inr (8, [.ref tx, .ref r, .ref a, .ref r2, .ref a2, .ref x, .ref y, .ref z, .ref v, .ref h, .long (zwkS sd (i + 1))])), (r, .inr (3, [.ref ro, .ref rn, .ref rr, .int rt, .int fr, .int pr, .int (nI n), .int (nI m)])), (ro, .inl (cI, 4, .inl od)), (a, .inr (6, [.ref b])), (b, .inl (cI, 36, .inl f)), (h, .inr (2, [.ref a4, .int jr])), (a4, .inr (6, [.ref b4])), (b4, .inl (cI, 36, .inl (zwkG od f rt fr n sd (i + 1))))] := zD_of hD rfl
        have hl : lv_has ls 3 [(2, .int (nI (i + 1))), (0, .ref o), (1, .int (nI w))] := lv_sub hl [0, 1, 2] rfl
        exact ih_6 _ _ _ (by omega) ⟨hP, hD, hS, hl⟩
    · have c_3 : ¬ (x1 ≤ 30) := c_3
      refine lv_bipush (v := -2) hx hb dX8_week_11 (by decide) ?_
      have e_18 : sd = zRa 1 30 x1 (fun w => zwkS sd w) sd := by first | rw [zRa_lo (by assumption)] | rw [zRa_hi (by assumption)] | rw [zRa_y hw1 hw (by decide)]
      have hP : va_P D vwCl [(o, .inr (8, [.ref tx, .ref r, .ref a, .ref r2, .ref a2, .ref x, .ref y, .ref z, .ref v, .ref h, .long (zRa 1 30 x1 (fun w => zwkS sd w) sd)])), (r, .inr (3, [.ref ro, .ref rn, .ref rr, .int rt, .int fr, .int pr, .int (nI n), .int (nI m)])), (ro, .inl (cI, 4, .inl od)), (a, .inr (6, [.ref b])), (b, .inl (cI, 36, .inl f)), (h, .inr (2, [.ref a4, .int jr])), (a4, .inr (6, [.ref b4])), (b4, .inl (cI, 36, .inl g4))] H := Eq.subst (motive := fun zz_ => va_P D vwCl [(o, .inr (8, [.ref tx, .ref r, .ref a, .ref r2, .ref a2, .ref x, .ref y, .ref z, .ref v, .ref h, .long zz_])), (r, .inr (3, [.ref ro, .ref rn, .ref rr, .int rt, .int fr, .int pr, .int (nI n), .int (nI m)])), (ro, .inl (cI, 4, .inl od)), (a, .inr (6, [.ref b])), (b, .inl (cI, 36, .inl f)), (h, .inr (2, [.ref a4, .int jr])), (a4, .inr (6, [.ref b4])), (b4, .inl (cI, 36, .inl g4))] H) e_18 hP
      have hD : va_D A [(o, .inr (8, [.ref tx, .ref r, .ref a, .ref r2, .ref a2, .ref x, .ref y, .ref z, .ref v, .ref h, .long (zRa 1 30 x1 (fun w => zwkS sd w) sd)])), (r, .inr (3, [.ref ro, .ref rn, .ref rr, .int rt, .int fr, .int pr, .int (nI n), .int (nI m)])), (ro, .inl (cI, 4, .inl od)), (a, .inr (6, [.ref b])), (b, .inl (cI, 36, .inl f)), (h, .inr (2, [.ref a4, .int jr])), (a4, .inr (6, [.ref b4])), (b4, .inl (cI, 36, .inl g4))] := zD_of hD rfl
      exact z_iret Z (g4) (by first | rw [zRa_lo (by assumption)] | rw [zRa_hi (by assumption)] | rw [zRa_y hw1 hw (by decide)]) hP hS dX8_week_13

theorem dX8_keep_0 : decode cX8_keep 0 = .ok (.iload_n 1, 1) := by decide +kernel
theorem dX8_keep_1 : decode cX8_keep 1 = .ok (.ifCond .lt 8, 3) := by decide +kernel
theorem dX8_keep_4 : decode cX8_keep 4 = .ok (.iload_n 1, 1) := by decide +kernel
theorem dX8_keep_5 : decode cX8_keep 5 = .ok (.iconst 2, 1) := by decide +kernel
theorem dX8_keep_6 : decode cX8_keep 6 = .ok (.if_icmp .lt 5, 3) := by decide +kernel
theorem dX8_keep_9 : decode cX8_keep 9 = .ok (.iconst (-1), 1) := by decide +kernel
theorem dX8_keep_10 : decode cX8_keep 10 = .ok (.ireturn, 1) := by decide +kernel
theorem dX8_keep_11 : decode cX8_keep 11 = .ok (.aload_n 0, 1) := by decide +kernel
theorem dX8_keep_12 : decode cX8_keep 12 = .ok (.getfield 46, 3) := by decide +kernel
theorem dX8_keep_15 : decode cX8_keep 15 = .ok (.iload_n 1, 1) := by decide +kernel
theorem dX8_keep_16 : decode cX8_keep 16 = .ok (.aload_n 0, 1) := by decide +kernel
theorem dX8_keep_17 : decode cX8_keep 17 = .ok (.getfield 26, 3) := by decide +kernel
theorem dX8_keep_20 : decode cX8_keep 20 = .ok (.invokevirtual 272, 3) := by decide +kernel
theorem dX8_keep_23 : decode cX8_keep 23 = .ok (.aload_n 0, 1) := by decide +kernel
theorem dX8_keep_24 : decode cX8_keep 24 = .ok (.getfield 26, 3) := by decide +kernel
theorem dX8_keep_27 : decode cX8_keep 27 = .ok (.invokevirtual 112, 3) := by decide +kernel
theorem dX8_keep_30 : decode cX8_keep 30 = .ok (.ireturn, 1) := by decide +kernel
theorem zd_X8_keep : yX8_keep.cls ≠ "java/lang/invoke/MethodHandle" ∧ yX8_keep.cls ≠ "java/lang/invoke/VarHandle" ∧ (parseMethodDescriptor yX8_keep.desc).map (fun d => d.parameters.length) = some 1 := by decide +kernel
set_option maxHeartbeats 4000000 in
set_option maxRecDepth 100000 in
theorem zc_X8_keep (l : Launch) (D : va_G) (cI cZ : ClassId) (o : Nat) (tx : Nat) (r : Nat) (a : Nat) (r2 : Nat) (a2 : Nat) (x : Nat) (y : Nat) (z : Nat) (v : Nat) (h : Nat) (sd : Int64) (ys : Nat) (yk : Nat) (yf : Nat → Int32) (kf : Nat → Int32) (b : Nat) (f : Nat → Int32) (x1 : Int32) : zI l yX8_keep cX8_keep 2 .int 3 62 D cI cZ [.ref o, .int x1] [(o, .inr (8, [.ref tx, .ref r, .ref a, .ref r2, .ref a2, .ref x, .ref y, .ref z, .ref v, .ref h, .long sd])), (y, .inr (5, [.ref ys, .ref yk])), (ys, .inl (cI, 72, .inl yf)), (yk, .inl (cZ, 2, .inl kf)), (a, .inr (6, [.ref b])), (b, .inl (cI, 36, .inl f))] (fun (r : Int32) (u : Unit) => r = zPa 2 x1 (fun _ => f 35) (-1)) (fun (u : Unit) => [(o, .inr (8, [.ref tx, .ref r, .ref a, .ref r2, .ref a2, .ref x, .ref y, .ref z, .ref v, .ref h, .long sd])), (y, .inr (5, [.ref ys, .ref yk])), (ys, .inl (cI, 72, .inl (zPa 2 x1 (fun k => va_cpy f yf 0 (k * 36) 36) yf))), (yk, .inl (cZ, 2, .inl (zPa 2 x1 (fun k => upd kf k 1) kf))), (a, .inr (6, [.ref b])), (b, .inl (cI, 36, .inl f))]) := by
  refine zI_of (by decide) (Nat.le_of_ble_eq_true rfl) ?_
  intro pP eE sS mM aA bB mT cC A ls Z hP hD hS hl
  have hx := Z.1
  have hb := Z.2.1
  have hown := Z.2.2.2.2.2.1
  have hts := Z.2.2.2.2.1
  have Z : zAt pP sS mM aA mT cC D cI cZ A "SurpriseTax" cX8_keep 2 (some .int) := Z
  have hl : lv_has ls 2 [(0, .ref o), (1, .int x1)] := hl
  obtain ⟨H, hH⟩ : ∃ H, H = sS.heap := ⟨_, rfl⟩
  have hP : va_P D vwCl [(o, .inr (8, [.ref tx, .ref r, .ref a, .ref r2, .ref a2, .ref x, .ref y, .ref z, .ref v, .ref h, .long sd])), (y, .inr (5, [.ref ys, .ref yk])), (ys, .inl (cI, 72, .inl yf)), (yk, .inl (cZ, 2, .inl kf)), (a, .inr (6, [.ref b])), (b, .inl (cI, 36, .inl f))] H := by rw [hH]; exact hP
  have hS : va_S A sS.heap H [] := by rw [hH]; exact hS
  rw [← hH]
  clear hH
  obtain ⟨locs, hlo⟩ : ∃ q : List Loc, q = [] := ⟨_, rfl⟩
  rw [← hlo] at hS ⊢
  clear hlo
  refine lv_iload_n hx hb dX8_keep_0 rfl (lv_at hl 1 rfl) ?_
  refine lv_if_lt (tgt := 9) hx hb dX8_keep_1 (by decide) (fun c_1 => ?_) (fun c_1 => ?_)
  · have c_1 : x1 < 0 := c_1
    refine lv_iconst (v := -1) hx hb dX8_keep_9 (by decide) ?_
    have e_2 : yf = zPa 2 x1 (fun k => va_cpy f yf 0 (k * 36) 36) yf := by first | rw [zPa_n (fun h => h.1 (by assumption))] | rw [zPa_n (fun h => h.2 (Int32.not_lt.mp (by assumption)))] | rw [zPa_y hk (by decide)]
    have hP : va_P D vwCl [(o, .inr (8, [.ref tx, .ref r, .ref a, .ref r2, .ref a2, .ref x, .ref y, .ref z, .ref v, .ref h, .long sd])), (y, .inr (5, [.ref ys, .ref yk])), (ys, .inl (cI, 72, .inl (zPa 2 x1 (fun k => va_cpy f yf 0 (k * 36) 36) yf))), (yk, .inl (cZ, 2, .inl kf)), (a, .inr (6, [.ref b])), (b, .inl (cI, 36, .inl f))] H := Eq.subst (motive := fun zz_ => va_P D vwCl [(o, .inr (8, [.ref tx, .ref r, .ref a, .ref r2, .ref a2, .ref x, .ref y, .ref z, .ref v, .ref h, .long sd])), (y, .inr (5, [.ref ys, .ref yk])), (ys, .inl (cI, 72, .inl zz_)), (yk, .inl (cZ, 2, .inl kf)), (a, .inr (6, [.ref b])), (b, .inl (cI, 36, .inl f))] H) e_2 hP
    have e_3 : kf = zPa 2 x1 (fun k => upd kf k 1) kf := by first | rw [zPa_n (fun h => h.1 (by assumption))] | rw [zPa_n (fun h => h.2 (Int32.not_lt.mp (by assumption)))] | rw [zPa_y hk (by decide)]
    have hP : va_P D vwCl [(o, .inr (8, [.ref tx, .ref r, .ref a, .ref r2, .ref a2, .ref x, .ref y, .ref z, .ref v, .ref h, .long sd])), (y, .inr (5, [.ref ys, .ref yk])), (ys, .inl (cI, 72, .inl (zPa 2 x1 (fun k => va_cpy f yf 0 (k * 36) 36) yf))), (yk, .inl (cZ, 2, .inl (zPa 2 x1 (fun k => upd kf k 1) kf))), (a, .inr (6, [.ref b])), (b, .inl (cI, 36, .inl f))] H := Eq.subst (motive := fun zz_ => va_P D vwCl [(o, .inr (8, [.ref tx, .ref r, .ref a, .ref r2, .ref a2, .ref x, .ref y, .ref z, .ref v, .ref h, .long sd])), (y, .inr (5, [.ref ys, .ref yk])), (ys, .inl (cI, 72, .inl (zPa 2 x1 (fun k => va_cpy f yf 0 (k * 36) 36) yf))), (yk, .inl (cZ, 2, .inl zz_)), (a, .inr (6, [.ref b])), (b, .inl (cI, 36, .inl f))] H) e_3 hP
    have hD : va_D A [(o, .inr (8, [.ref tx, .ref r, .ref a, .ref r2, .ref a2, .ref x, .ref y, .ref z, .ref v, .ref h, .long sd])), (y, .inr (5, [.ref ys, .ref yk])), (ys, .inl (cI, 72, .inl (zPa 2 x1 (fun k => va_cpy f yf 0 (k * 36) 36) yf))), (yk, .inl (cZ, 2, .inl (zPa 2 x1 (fun k => upd kf k 1) kf))), (a, .inr (6, [.ref b])), (b, .inl (cI, 36, .inl f))] := zD_of hD rfl
    exact z_iret Z () (by first | rw [zPa_n (fun h => h.1 (by assumption))] | rw [zPa_n (fun h => h.2 (Int32.not_lt.mp (by assumption)))] | rw [zPa_y hk (by decide)]) hP hS dX8_keep_10
  · have c_1 : ¬ (x1 < 0) := c_1
    refine lv_iload_n hx hb dX8_keep_4 rfl (lv_at hl 1 rfl) ?_
    refine lv_iconst (v := nI 2) hx hb dX8_keep_5 (by decide) ?_
    refine lv_icmp_lt (tgt := 11) hx hb dX8_keep_6 (by decide) (fun c_4 => ?_) (fun c_4 => ?_)
    · have c_4 : x1 < 2 := c_4
      obtain ⟨k, hk, rfl⟩ := zhas_of (n := 2) (by decide) ⟨by assumption, Int32.not_le.mpr (by assumption)⟩
      refine lv_aload_n hx hb dX8_keep_11 rfl (lv_at hl 0 rfl) ?_
      refine z_get (ci := 8) (v := .ref y) Z zin8 hP 0 rfl rfl 6 (by decide) zm180 rfl rfl dX8_keep_12 ?_
      refine lv_iload_n hx hb dX8_keep_15 rfl (lv_at hl 1 rfl) ?_
      refine lv_aload_n hx hb dX8_keep_16 rfl (lv_at hl 0 rfl) ?_
      refine z_get (ci := 8) (v := .ref a) Z zin8 hP 0 rfl rfl 2 (by decide) zm176 rfl rfl dX8_keep_17 ?_
      refine z_callVv (As := [.int (nI k), .ref a]) (rest := []) (ci := 5) (k0 := 0) Z hP hD hS hl.1 (zc_X5_put l D cI cZ y ys yk yf kf a b f k (by omega)) zm653 zm654 zm655 zm35 zm656 ⟨rfl, zd_X5_put⟩ ⟨Nat.le_of_ble_eq_true rfl, Nat.le_of_ble_eq_true rfl⟩ ⟨Nat.zero_le _, Nat.zero_le _⟩ [1, 2, 3, 4, 5] rfl (by decide) rfl rfl rfl (fun _ => rfl) rfl (Nat.le_of_ble_eq_true rfl) rfl dX8_keep_20 (fun u H locs h_6 hP hD hS => ?_)
      have hP : va_P D vwCl [(o, .inr (8, [.ref tx, .ref r, .ref a, .ref r2, .ref a2, .ref x, .ref y, .ref z, .ref v, .ref h, .long sd])), (y, .inr (5, [.ref ys, .ref yk])), (ys, .inl (cI, 72, .inl (va_cpy f yf 0 (k * 36) 36))), (yk, .inl (cZ, 2, .inl (upd kf k 1))), (a, .inr (6, [.ref b])), (b, .inl (cI, 36, .inl f))] H := hP
      have hD : va_D A [(o, .inr (8, [.ref tx, .ref r, .ref a, .ref r2, .ref a2, .ref x, .ref y, .ref z, .ref v, .ref h, .long sd])), (y, .inr (5, [.ref ys, .ref yk])), (ys, .inl (cI, 72, .inl (va_cpy f yf 0 (k * 36) 36))), (yk, .inl (cZ, 2, .inl (upd kf k 1))), (a, .inr (6, [.ref b])), (b, .inl (cI, 36, .inl f))] := hD
      refine lv_aload_n hx hb dX8_keep_23 rfl (lv_at hl 0 rfl) ?_
      refine z_get (ci := 8) (v := .ref a) Z zin8 hP 0 rfl rfl 2 (by decide) zm176 rfl rfl dX8_keep_24 ?_
      refine z_callVi (As := []) (rest := []) (ci := 6) (k0 := 0) Z hP hD hS hl.1 (zc_X6_day l D cI cZ a b f ) zm305 zm306 zm307 zm33 zm308 ⟨rfl, zd_X6_day⟩ ⟨Nat.le_of_ble_eq_true rfl, Nat.le_of_ble_eq_true rfl⟩ ⟨Nat.zero_le _, Nat.zero_le _⟩ [4, 5] rfl (by decide) rfl rfl rfl (fun _ => rfl) rfl (Nat.le_of_ble_eq_true rfl) rfl dX8_keep_27 (fun r_7 u H locs h_8 hP hD hS => ?_)
      have hP : va_P D vwCl [(o, .inr (8, [.ref tx, .ref r, .ref a, .ref r2, .ref a2, .ref x, .ref y, .ref z, .ref v, .ref h, .long sd])), (y, .inr (5, [.ref ys, .ref yk])), (ys, .inl (cI, 72, .inl (va_cpy f yf 0 (k * 36) 36))), (yk, .inl (cZ, 2, .inl (upd kf k 1))), (a, .inr (6, [.ref b])), (b, .inl (cI, 36, .inl f))] H := hP
      have hD : va_D A [(o, .inr (8, [.ref tx, .ref r, .ref a, .ref r2, .ref a2, .ref x, .ref y, .ref z, .ref v, .ref h, .long sd])), (y, .inr (5, [.ref ys, .ref yk])), (ys, .inl (cI, 72, .inl (va_cpy f yf 0 (k * 36) 36))), (yk, .inl (cZ, 2, .inl (upd kf k 1))), (a, .inr (6, [.ref b])), (b, .inl (cI, 36, .inl f))] := hD
      have h_8 : r_7 = f 35 := h_8
      subst h_8
      have e_9 : va_cpy f yf 0 (k * 36) 36 = zPa 2 (nI k) (fun k => va_cpy f yf 0 (k * 36) 36) yf := by first | rw [zPa_n (fun h => h.1 (by assumption))] | rw [zPa_n (fun h => h.2 (Int32.not_lt.mp (by assumption)))] | rw [zPa_y hk (by decide)]
      have hP : va_P D vwCl [(o, .inr (8, [.ref tx, .ref r, .ref a, .ref r2, .ref a2, .ref x, .ref y, .ref z, .ref v, .ref h, .long sd])), (y, .inr (5, [.ref ys, .ref yk])), (ys, .inl (cI, 72, .inl (zPa 2 (nI k) (fun k => va_cpy f yf 0 (k * 36) 36) yf))), (yk, .inl (cZ, 2, .inl (upd kf k 1))), (a, .inr (6, [.ref b])), (b, .inl (cI, 36, .inl f))] H := Eq.subst (motive := fun zz_ => va_P D vwCl [(o, .inr (8, [.ref tx, .ref r, .ref a, .ref r2, .ref a2, .ref x, .ref y, .ref z, .ref v, .ref h, .long sd])), (y, .inr (5, [.ref ys, .ref yk])), (ys, .inl (cI, 72, .inl zz_)), (yk, .inl (cZ, 2, .inl (upd kf k 1))), (a, .inr (6, [.ref b])), (b, .inl (cI, 36, .inl f))] H) e_9 hP
      have e_10 : upd kf k 1 = zPa 2 (nI k) (fun k => upd kf k 1) kf := by first | rw [zPa_n (fun h => h.1 (by assumption))] | rw [zPa_n (fun h => h.2 (Int32.not_lt.mp (by assumption)))] | rw [zPa_y hk (by decide)]
      have hP : va_P D vwCl [(o, .inr (8, [.ref tx, .ref r, .ref a, .ref r2, .ref a2, .ref x, .ref y, .ref z, .ref v, .ref h, .long sd])), (y, .inr (5, [.ref ys, .ref yk])), (ys, .inl (cI, 72, .inl (zPa 2 (nI k) (fun k => va_cpy f yf 0 (k * 36) 36) yf))), (yk, .inl (cZ, 2, .inl (zPa 2 (nI k) (fun k => upd kf k 1) kf))), (a, .inr (6, [.ref b])), (b, .inl (cI, 36, .inl f))] H := Eq.subst (motive := fun zz_ => va_P D vwCl [(o, .inr (8, [.ref tx, .ref r, .ref a, .ref r2, .ref a2, .ref x, .ref y, .ref z, .ref v, .ref h, .long sd])), (y, .inr (5, [.ref ys, .ref yk])), (ys, .inl (cI, 72, .inl (zPa 2 (nI k) (fun k => va_cpy f yf 0 (k * 36) 36) yf))), (yk, .inl (cZ, 2, .inl zz_)), (a, .inr (6, [.ref b])), (b, .inl (cI, 36, .inl f))] H) e_10 hP
      have hD : va_D A [(o, .inr (8, [.ref tx, .ref r, .ref a, .ref r2, .ref a2, .ref x, .ref y, .ref z, .ref v, .ref h, .long sd])), (y, .inr (5, [.ref ys, .ref yk])), (ys, .inl (cI, 72, .inl (zPa 2 (nI k) (fun k => va_cpy f yf 0 (k * 36) 36) yf))), (yk, .inl (cZ, 2, .inl (zPa 2 (nI k) (fun k => upd kf k 1) kf))), (a, .inr (6, [.ref b])), (b, .inl (cI, 36, .inl f))] := zD_of hD rfl
      exact z_iret Z () (by first | rw [zPa_n (fun h => h.1 (by assumption))] | rw [zPa_n (fun h => h.2 (Int32.not_lt.mp (by assumption)))] | rw [zPa_y hk (by decide)]) hP hS dX8_keep_30
    · have c_4 : ¬ (x1 < 2) := c_4
      refine lv_iconst (v := -1) hx hb dX8_keep_9 (by decide) ?_
      have e_11 : yf = zPa 2 x1 (fun k => va_cpy f yf 0 (k * 36) 36) yf := by first | rw [zPa_n (fun h => h.1 (by assumption))] | rw [zPa_n (fun h => h.2 (Int32.not_lt.mp (by assumption)))] | rw [zPa_y hk (by decide)]
      have hP : va_P D vwCl [(o, .inr (8, [.ref tx, .ref r, .ref a, .ref r2, .ref a2, .ref x, .ref y, .ref z, .ref v, .ref h, .long sd])), (y, .inr (5, [.ref ys, .ref yk])), (ys, .inl (cI, 72, .inl (zPa 2 x1 (fun k => va_cpy f yf 0 (k * 36) 36) yf))), (yk, .inl (cZ, 2, .inl kf)), (a, .inr (6, [.ref b])), (b, .inl (cI, 36, .inl f))] H := Eq.subst (motive := fun zz_ => va_P D vwCl [(o, .inr (8, [.ref tx, .ref r, .ref a, .ref r2, .ref a2, .ref x, .ref y, .ref z, .ref v, .ref h, .long sd])), (y, .inr (5, [.ref ys, .ref yk])), (ys, .inl (cI, 72, .inl zz_)), (yk, .inl (cZ, 2, .inl kf)), (a, .inr (6, [.ref b])), (b, .inl (cI, 36, .inl f))] H) e_11 hP
      have e_12 : kf = zPa 2 x1 (fun k => upd kf k 1) kf := by first | rw [zPa_n (fun h => h.1 (by assumption))] | rw [zPa_n (fun h => h.2 (Int32.not_lt.mp (by assumption)))] | rw [zPa_y hk (by decide)]
      have hP : va_P D vwCl [(o, .inr (8, [.ref tx, .ref r, .ref a, .ref r2, .ref a2, .ref x, .ref y, .ref z, .ref v, .ref h, .long sd])), (y, .inr (5, [.ref ys, .ref yk])), (ys, .inl (cI, 72, .inl (zPa 2 x1 (fun k => va_cpy f yf 0 (k * 36) 36) yf))), (yk, .inl (cZ, 2, .inl (zPa 2 x1 (fun k => upd kf k 1) kf))), (a, .inr (6, [.ref b])), (b, .inl (cI, 36, .inl f))] H := Eq.subst (motive := fun zz_ => va_P D vwCl [(o, .inr (8, [.ref tx, .ref r, .ref a, .ref r2, .ref a2, .ref x, .ref y, .ref z, .ref v, .ref h, .long sd])), (y, .inr (5, [.ref ys, .ref yk])), (ys, .inl (cI, 72, .inl (zPa 2 x1 (fun k => va_cpy f yf 0 (k * 36) 36) yf))), (yk, .inl (cZ, 2, .inl zz_)), (a, .inr (6, [.ref b])), (b, .inl (cI, 36, .inl f))] H) e_12 hP
      have hD : va_D A [(o, .inr (8, [.ref tx, .ref r, .ref a, .ref r2, .ref a2, .ref x, .ref y, .ref z, .ref v, .ref h, .long sd])), (y, .inr (5, [.ref ys, .ref yk])), (ys, .inl (cI, 72, .inl (zPa 2 x1 (fun k => va_cpy f yf 0 (k * 36) 36) yf))), (yk, .inl (cZ, 2, .inl (zPa 2 x1 (fun k => upd kf k 1) kf))), (a, .inr (6, [.ref b])), (b, .inl (cI, 36, .inl f))] := zD_of hD rfl
      exact z_iret Z () (by first | rw [zPa_n (fun h => h.1 (by assumption))] | rw [zPa_n (fun h => h.2 (Int32.not_lt.mp (by assumption)))] | rw [zPa_y hk (by decide)]) hP hS dX8_keep_10

theorem dX8_again_0 : decode cX8_again 0 = .ok (.iload_n 1, 1) := by decide +kernel
theorem dX8_again_1 : decode cX8_again 1 = .ok (.ifCond .lt 8, 3) := by decide +kernel
theorem dX8_again_4 : decode cX8_again 4 = .ok (.iload_n 1, 1) := by decide +kernel
theorem dX8_again_5 : decode cX8_again 5 = .ok (.iconst 2, 1) := by decide +kernel
theorem dX8_again_6 : decode cX8_again 6 = .ok (.if_icmp .lt 5, 3) := by decide +kernel
theorem dX8_again_9 : decode cX8_again 9 = .ok (.iconst (-1), 1) := by decide +kernel
theorem dX8_again_10 : decode cX8_again 10 = .ok (.ireturn, 1) := by decide +kernel
theorem dX8_again_11 : decode cX8_again 11 = .ok (.aload_n 0, 1) := by decide +kernel
theorem dX8_again_12 : decode cX8_again 12 = .ok (.getfield 46, 3) := by decide +kernel
theorem dX8_again_15 : decode cX8_again 15 = .ok (.iload_n 1, 1) := by decide +kernel
theorem dX8_again_16 : decode cX8_again 16 = .ok (.invokevirtual 276, 3) := by decide +kernel
theorem dX8_again_19 : decode cX8_again 19 = .ok (.ifCond .ne 6, 3) := by decide +kernel
theorem dX8_again_22 : decode cX8_again 22 = .ok (.bipush (-3), 2) := by decide +kernel
theorem dX8_again_24 : decode cX8_again 24 = .ok (.ireturn, 1) := by decide +kernel
theorem dX8_again_25 : decode cX8_again 25 = .ok (.aload_n 0, 1) := by decide +kernel
theorem dX8_again_26 : decode cX8_again 26 = .ok (.getfield 46, 3) := by decide +kernel
theorem dX8_again_29 : decode cX8_again 29 = .ok (.iload_n 1, 1) := by decide +kernel
theorem dX8_again_30 : decode cX8_again 30 = .ok (.aload_n 0, 1) := by decide +kernel
theorem dX8_again_31 : decode cX8_again 31 = .ok (.getfield 26, 3) := by decide +kernel
theorem dX8_again_34 : decode cX8_again 34 = .ok (.invokevirtual 279, 3) := by decide +kernel
theorem dX8_again_37 : decode cX8_again 37 = .ok (.aload_n 0, 1) := by decide +kernel
theorem dX8_again_38 : decode cX8_again 38 = .ok (.getfield 39, 3) := by decide +kernel
theorem dX8_again_41 : decode cX8_again 41 = .ok (.invokevirtual 94, 3) := by decide +kernel
theorem dX8_again_44 : decode cX8_again 44 = .ok (.aload_n 0, 1) := by decide +kernel
theorem dX8_again_45 : decode cX8_again 45 = .ok (.getfield 26, 3) := by decide +kernel
theorem dX8_again_48 : decode cX8_again 48 = .ok (.invokevirtual 112, 3) := by decide +kernel
theorem dX8_again_51 : decode cX8_again 51 = .ok (.ireturn, 1) := by decide +kernel
theorem zd_X8_again : yX8_again.cls ≠ "java/lang/invoke/MethodHandle" ∧ yX8_again.cls ≠ "java/lang/invoke/VarHandle" ∧ (parseMethodDescriptor yX8_again.desc).map (fun d => d.parameters.length) = some 1 := by decide +kernel
set_option maxHeartbeats 4000000 in
set_option maxRecDepth 100000 in
theorem zc_X8_again (l : Launch) (D : va_G) (cI cZ : ClassId) (o : Nat) (tx : Nat) (r : Nat) (a : Nat) (r2 : Nat) (a2 : Nat) (x : Nat) (y : Nat) (z : Nat) (v : Nat) (h : Nat) (sd : Int64) (ys : Nat) (yk : Nat) (yf : Nat → Int32) (kf : Nat → Int32) (b : Nat) (f : Nat → Int32) (xs : Nat) (cn : Nat) (nx : Nat) (x1 : Int32) (hkf : ∀ k, k < 2 → kf k = 0 ∨ kf k = 1) : zI l yX8_again cX8_again 2 .int 3 62 D cI cZ [.ref o, .int x1] [(o, .inr (8, [.ref tx, .ref r, .ref a, .ref r2, .ref a2, .ref x, .ref y, .ref z, .ref v, .ref h, .long sd])), (y, .inr (5, [.ref ys, .ref yk])), (ys, .inl (cI, 72, .inl yf)), (yk, .inl (cZ, 2, .inl kf)), (a, .inr (6, [.ref b])), (b, .inl (cI, 36, .inl f)), (x, .inr (0, [.ref xs, .int (nI cn), .int (nI nx)]))] (fun (r : Int32) (u : Unit) => r = zPa 2 x1 (fun k => if kf k = 0 then -3 else va_cpy yf f (k * 36) 0 36 35) (-1)) (fun (u : Unit) => [(o, .inr (8, [.ref tx, .ref r, .ref a, .ref r2, .ref a2, .ref x, .ref y, .ref z, .ref v, .ref h, .long sd])), (y, .inr (5, [.ref ys, .ref yk])), (ys, .inl (cI, 72, .inl yf)), (yk, .inl (cZ, 2, .inl kf)), (a, .inr (6, [.ref b])), (b, .inl (cI, 36, .inl (zPa 2 x1 (fun k => if kf k = 0 then f else va_cpy yf f (k * 36) 0 36) f))), (x, .inr (0, [.ref xs, .int (nI (zPa 2 x1 (fun k => if kf k = 0 then cn else 0) cn)), .int (nI nx)]))]) := by
  refine zI_of (by decide) (Nat.le_of_ble_eq_true rfl) ?_
  intro pP eE sS mM aA bB mT cC A ls Z hP hD hS hl
  have hx := Z.1
  have hb := Z.2.1
  have hown := Z.2.2.2.2.2.1
  have hts := Z.2.2.2.2.1
  have Z : zAt pP sS mM aA mT cC D cI cZ A "SurpriseTax" cX8_again 2 (some .int) := Z
  have hl : lv_has ls 2 [(0, .ref o), (1, .int x1)] := hl
  obtain ⟨H, hH⟩ : ∃ H, H = sS.heap := ⟨_, rfl⟩
  have hP : va_P D vwCl [(o, .inr (8, [.ref tx, .ref r, .ref a, .ref r2, .ref a2, .ref x, .ref y, .ref z, .ref v, .ref h, .long sd])), (y, .inr (5, [.ref ys, .ref yk])), (ys, .inl (cI, 72, .inl yf)), (yk, .inl (cZ, 2, .inl kf)), (a, .inr (6, [.ref b])), (b, .inl (cI, 36, .inl f)), (x, .inr (0, [.ref xs, .int (nI cn), .int (nI nx)]))] H := by rw [hH]; exact hP
  have hS : va_S A sS.heap H [] := by rw [hH]; exact hS
  rw [← hH]
  clear hH
  obtain ⟨locs, hlo⟩ : ∃ q : List Loc, q = [] := ⟨_, rfl⟩
  rw [← hlo] at hS ⊢
  clear hlo
  refine lv_iload_n hx hb dX8_again_0 rfl (lv_at hl 1 rfl) ?_
  refine lv_if_lt (tgt := 9) hx hb dX8_again_1 (by decide) (fun c_1 => ?_) (fun c_1 => ?_)
  · have c_1 : x1 < 0 := c_1
    refine lv_iconst (v := -1) hx hb dX8_again_9 (by decide) ?_
    have e_2 : f = zPa 2 x1 (fun k => if kf k = 0 then f else va_cpy yf f (k * 36) 0 36) f := by first | rw [zPa_n (fun h => h.1 (by assumption))] | rw [zPa_n (fun h => h.2 (Int32.not_lt.mp (by assumption)))] | (rw [zPa_y hk (by decide)]; first | rw [if_pos (by assumption)] | rw [if_neg (by assumption)])
    have hP : va_P D vwCl [(o, .inr (8, [.ref tx, .ref r, .ref a, .ref r2, .ref a2, .ref x, .ref y, .ref z, .ref v, .ref h, .long sd])), (y, .inr (5, [.ref ys, .ref yk])), (ys, .inl (cI, 72, .inl yf)), (yk, .inl (cZ, 2, .inl kf)), (a, .inr (6, [.ref b])), (b, .inl (cI, 36, .inl (zPa 2 x1 (fun k => if kf k = 0 then f else va_cpy yf f (k * 36) 0 36) f))), (x, .inr (0, [.ref xs, .int (nI cn), .int (nI nx)]))] H := Eq.subst (motive := fun zz_ => va_P D vwCl [(o, .inr (8, [.ref tx, .ref r, .ref a, .ref r2, .ref a2, .ref x, .ref y, .ref z, .ref v, .ref h, .long sd])), (y, .inr (5, [.ref ys, .ref yk])), (ys, .inl (cI, 72, .inl yf)), (yk, .inl (cZ, 2, .inl kf)), (a, .inr (6, [.ref b])), (b, .inl (cI, 36, .inl zz_)), (x, .inr (0, [.ref xs, .int (nI cn), .int (nI nx)]))] H) e_2 hP
    have e_3 : nI cn = nI (zPa 2 x1 (fun k => if kf k = 0 then cn else 0) cn) := by first | rw [zPa_n (fun h => h.1 (by assumption))] | rw [zPa_n (fun h => h.2 (Int32.not_lt.mp (by assumption)))] | (rw [zPa_y hk (by decide)]; first | rw [if_pos (by assumption)] | rw [if_neg (by assumption)])
    have hP : va_P D vwCl [(o, .inr (8, [.ref tx, .ref r, .ref a, .ref r2, .ref a2, .ref x, .ref y, .ref z, .ref v, .ref h, .long sd])), (y, .inr (5, [.ref ys, .ref yk])), (ys, .inl (cI, 72, .inl yf)), (yk, .inl (cZ, 2, .inl kf)), (a, .inr (6, [.ref b])), (b, .inl (cI, 36, .inl (zPa 2 x1 (fun k => if kf k = 0 then f else va_cpy yf f (k * 36) 0 36) f))), (x, .inr (0, [.ref xs, .int (nI (zPa 2 x1 (fun k => if kf k = 0 then cn else 0) cn)), .int (nI nx)]))] H := Eq.subst (motive := fun zz_ => va_P D vwCl [(o, .inr (8, [.ref tx, .ref r, .ref a, .ref r2, .ref a2, .ref x, .ref y, .ref z, .ref v, .ref h, .long sd])), (y, .inr (5, [.ref ys, .ref yk])), (ys, .inl (cI, 72, .inl yf)), (yk, .inl (cZ, 2, .inl kf)), (a, .inr (6, [.ref b])), (b, .inl (cI, 36, .inl (zPa 2 x1 (fun k => if kf k = 0 then f else va_cpy yf f (k * 36) 0 36) f))), (x, .inr (0, [.ref xs, .int zz_, .int (nI nx)]))] H) e_3 hP
    have hD : va_D A [(o, .inr (8, [.ref tx, .ref r, .ref a, .ref r2, .ref a2, .ref x, .ref y, .ref z, .ref v, .ref h, .long sd])), (y, .inr (5, [.ref ys, .ref yk])), (ys, .inl (cI, 72, .inl yf)), (yk, .inl (cZ, 2, .inl kf)), (a, .inr (6, [.ref b])), (b, .inl (cI, 36, .inl (zPa 2 x1 (fun k => if kf k = 0 then f else va_cpy yf f (k * 36) 0 36) f))), (x, .inr (0, [.ref xs, .int (nI (zPa 2 x1 (fun k => if kf k = 0 then cn else 0) cn)), .int (nI nx)]))] := zD_of hD rfl
    exact z_iret Z () (by first | rw [zPa_n (fun h => h.1 (by assumption))] | rw [zPa_n (fun h => h.2 (Int32.not_lt.mp (by assumption)))] | (rw [zPa_y hk (by decide)]; first | rw [if_pos (by assumption)] | rw [if_neg (by assumption)])) hP hS dX8_again_10
  · have c_1 : ¬ (x1 < 0) := c_1
    refine lv_iload_n hx hb dX8_again_4 rfl (lv_at hl 1 rfl) ?_
    refine lv_iconst (v := nI 2) hx hb dX8_again_5 (by decide) ?_
    refine lv_icmp_lt (tgt := 11) hx hb dX8_again_6 (by decide) (fun c_4 => ?_) (fun c_4 => ?_)
    · have c_4 : x1 < 2 := c_4
      obtain ⟨k, hk, rfl⟩ := zhas_of (n := 2) (by decide) ⟨by assumption, Int32.not_le.mpr (by assumption)⟩
      have hkk := hkf k hk
      refine lv_aload_n hx hb dX8_again_11 rfl (lv_at hl 0 rfl) ?_
      refine z_get (ci := 8) (v := .ref y) Z zin8 hP 0 rfl rfl 6 (by decide) zm180 rfl rfl dX8_again_12 ?_
      refine lv_iload_n hx hb dX8_again_15 rfl (lv_at hl 1 rfl) ?_
      refine z_callVi (As := [.int (nI k)]) (rest := []) (ci := 5) (k0 := 0) Z hP hD hS hl.1 (zc_X5_isKept l D cI cZ y ys yk kf k (by first | assumption | omega) (by first | assumption | omega)) zm662 zm663 zm664 zm35 zm665 ⟨rfl, zd_X5_isKept⟩ ⟨Nat.le_of_ble_eq_true rfl, Nat.le_of_ble_eq_true rfl⟩ ⟨Nat.zero_le _, Nat.zero_le _⟩ [1, 3] rfl (by decide) rfl rfl rfl (fun _ => rfl) rfl (Nat.le_of_ble_eq_true rfl) rfl dX8_again_16 (fun r_5 u H locs h_6 hP hD hS => ?_)
      have hP : va_P D vwCl [(o, .inr (8, [.ref tx, .ref r, .ref a, .ref r2, .ref a2, .ref x, .ref y, .ref z, .ref v, .ref h, .long sd])), (y, .inr (5, [.ref ys, .ref yk])), (ys, .inl (cI, 72, .inl yf)), (yk, .inl (cZ, 2, .inl kf)), (a, .inr (6, [.ref b])), (b, .inl (cI, 36, .inl f)), (x, .inr (0, [.ref xs, .int (nI cn), .int (nI nx)]))] H := hP
      have hD : va_D A [(o, .inr (8, [.ref tx, .ref r, .ref a, .ref r2, .ref a2, .ref x, .ref y, .ref z, .ref v, .ref h, .long sd])), (y, .inr (5, [.ref ys, .ref yk])), (ys, .inl (cI, 72, .inl yf)), (yk, .inl (cZ, 2, .inl kf)), (a, .inr (6, [.ref b])), (b, .inl (cI, 36, .inl f)), (x, .inr (0, [.ref xs, .int (nI cn), .int (nI nx)]))] := hD
      have h_6 : r_5 = kf k := h_6
      subst h_6
      refine lv_if_ne (tgt := 25) hx hb dX8_again_19 (by decide) (fun c_7 => ?_) (fun c_7 => ?_)
      · have c_7 : ¬ ((kf k) = 0) := c_7
        refine lv_aload_n hx hb dX8_again_25 rfl (lv_at hl 0 rfl) ?_
        refine z_get (ci := 8) (v := .ref y) Z zin8 hP 0 rfl rfl 6 (by decide) zm180 rfl rfl dX8_again_26 ?_
        refine lv_iload_n hx hb dX8_again_29 rfl (lv_at hl 1 rfl) ?_
        refine lv_aload_n hx hb dX8_again_30 rfl (lv_at hl 0 rfl) ?_
        refine z_get (ci := 8) (v := .ref a) Z zin8 hP 0 rfl rfl 2 (by decide) zm176 rfl rfl dX8_again_31 ?_
        refine z_callVv (As := [.int (nI k), .ref a]) (rest := []) (ci := 5) (k0 := 0) Z hP hD hS hl.1 (zc_X5_giveBack l D cI cZ y ys yk yf a b f k (by omega)) zm666 zm667 zm668 zm35 zm669 ⟨rfl, zd_X5_giveBack⟩ ⟨Nat.le_of_ble_eq_true rfl, Nat.le_of_ble_eq_true rfl⟩ ⟨Nat.zero_le _, Nat.zero_le _⟩ [1, 2, 4, 5] rfl (by decide) rfl rfl rfl (fun _ => rfl) rfl (Nat.le_of_ble_eq_true rfl) rfl dX8_again_34 (fun u H locs h_9 hP hD hS => ?_)
        have hP : va_P D vwCl [(o, .inr (8, [.ref tx, .ref r, .ref a, .ref r2, .ref a2, .ref x, .ref y, .ref z, .ref v, .ref h, .long sd])), (y, .inr (5, [.ref ys, .ref yk])), (ys, .inl (cI, 72, .inl yf)), (yk, .inl (cZ, 2, .inl kf)), (a, .inr (6, [.ref b])), (b, .inl (cI, 36, .inl (va_cpy yf f (k * 36) 0 36))), (x, .inr (0, [.ref xs, .int (nI cn), .int (nI nx)]))] H := hP
        have hD : va_D A [(o, .inr (8, [.ref tx, .ref r, .ref a, .ref r2, .ref a2, .ref x, .ref y, .ref z, .ref v, .ref h, .long sd])), (y, .inr (5, [.ref ys, .ref yk])), (ys, .inl (cI, 72, .inl yf)), (yk, .inl (cZ, 2, .inl kf)), (a, .inr (6, [.ref b])), (b, .inl (cI, 36, .inl (va_cpy yf f (k * 36) 0 36))), (x, .inr (0, [.ref xs, .int (nI cn), .int (nI nx)]))] := hD
        refine lv_aload_n hx hb dX8_again_37 rfl (lv_at hl 0 rfl) ?_
        refine z_get (ci := 8) (v := .ref x) Z zin8 hP 0 rfl rfl 5 (by decide) zm179 rfl rfl dX8_again_38 ?_
        refine z_callVv (As := []) (rest := []) (ci := 0) (k0 := 0) Z hP hD hS hl.1 (zc_X0_clear l D cI cZ x xs cn nx ) zm289 zm290 zm291 zm34 zm292 ⟨rfl, zd_X0_clear⟩ ⟨Nat.le_of_ble_eq_true rfl, Nat.le_of_ble_eq_true rfl⟩ ⟨Nat.zero_le _, Nat.zero_le _⟩ [6] rfl (by decide) rfl rfl rfl (fun _ => rfl) rfl (Nat.le_of_ble_eq_true rfl) rfl dX8_again_41 (fun u H locs h_11 hP hD hS => ?_)
        have hP : va_P D vwCl [(o, .inr (8, [.ref tx, .ref r, .ref a, .ref r2, .ref a2, .ref x, .ref y, .ref z, .ref v, .ref h, .long sd])), (y, .inr (5, [.ref ys, .ref yk])), (ys, .inl (cI, 72, .inl yf)), (yk, .inl (cZ, 2, .inl kf)), (a, .inr (6, [.ref b])), (b, .inl (cI, 36, .inl (va_cpy yf f (k * 36) 0 36))), (x, .inr (0, [.ref xs, .int (nI 0), .int (nI nx)]))] H := hP
        have hD : va_D A [(o, .inr (8, [.ref tx, .ref r, .ref a, .ref r2, .ref a2, .ref x, .ref y, .ref z, .ref v, .ref h, .long sd])), (y, .inr (5, [.ref ys, .ref yk])), (ys, .inl (cI, 72, .inl yf)), (yk, .inl (cZ, 2, .inl kf)), (a, .inr (6, [.ref b])), (b, .inl (cI, 36, .inl (va_cpy yf f (k * 36) 0 36))), (x, .inr (0, [.ref xs, .int (nI 0), .int (nI nx)]))] := hD
        refine lv_aload_n hx hb dX8_again_44 rfl (lv_at hl 0 rfl) ?_
        refine z_get (ci := 8) (v := .ref a) Z zin8 hP 0 rfl rfl 2 (by decide) zm176 rfl rfl dX8_again_45 ?_
        refine z_callVi (As := []) (rest := []) (ci := 6) (k0 := 0) Z hP hD hS hl.1 (zc_X6_day l D cI cZ a b (va_cpy yf f (k * 36) 0 36) ) zm305 zm306 zm307 zm33 zm308 ⟨rfl, zd_X6_day⟩ ⟨Nat.le_of_ble_eq_true rfl, Nat.le_of_ble_eq_true rfl⟩ ⟨Nat.zero_le _, Nat.zero_le _⟩ [4, 5] rfl (by decide) rfl rfl rfl (fun _ => rfl) rfl (Nat.le_of_ble_eq_true rfl) rfl dX8_again_48 (fun r_12 u H locs h_13 hP hD hS => ?_)
        have hP : va_P D vwCl [(o, .inr (8, [.ref tx, .ref r, .ref a, .ref r2, .ref a2, .ref x, .ref y, .ref z, .ref v, .ref h, .long sd])), (y, .inr (5, [.ref ys, .ref yk])), (ys, .inl (cI, 72, .inl yf)), (yk, .inl (cZ, 2, .inl kf)), (a, .inr (6, [.ref b])), (b, .inl (cI, 36, .inl (va_cpy yf f (k * 36) 0 36))), (x, .inr (0, [.ref xs, .int (nI 0), .int (nI nx)]))] H := hP
        have hD : va_D A [(o, .inr (8, [.ref tx, .ref r, .ref a, .ref r2, .ref a2, .ref x, .ref y, .ref z, .ref v, .ref h, .long sd])), (y, .inr (5, [.ref ys, .ref yk])), (ys, .inl (cI, 72, .inl yf)), (yk, .inl (cZ, 2, .inl kf)), (a, .inr (6, [.ref b])), (b, .inl (cI, 36, .inl (va_cpy yf f (k * 36) 0 36))), (x, .inr (0, [.ref xs, .int (nI 0), .int (nI nx)]))] := hD
        have h_13 : r_12 = (va_cpy yf f (k * 36) 0 36) 35 := h_13
        subst h_13
        have e_14 : va_cpy yf f (k * 36) 0 36 = zPa 2 (nI k) (fun k => if kf k = 0 then f else va_cpy yf f (k * 36) 0 36) f := by first | rw [zPa_n (fun h => h.1 (by assumption))] | rw [zPa_n (fun h => h.2 (Int32.not_lt.mp (by assumption)))] | (rw [zPa_y hk (by decide)]; first | rw [if_pos (by assumption)] | rw [if_neg (by assumption)])
        have hP : va_P D vwCl [(o, .inr (8, [.ref tx, .ref r, .ref a, .ref r2, .ref a2, .ref x, .ref y, .ref z, .ref v, .ref h, .long sd])), (y, .inr (5, [.ref ys, .ref yk])), (ys, .inl (cI, 72, .inl yf)), (yk, .inl (cZ, 2, .inl kf)), (a, .inr (6, [.ref b])), (b, .inl (cI, 36, .inl (zPa 2 (nI k) (fun k => if kf k = 0 then f else va_cpy yf f (k * 36) 0 36) f))), (x, .inr (0, [.ref xs, .int (nI 0), .int (nI nx)]))] H := Eq.subst (motive := fun zz_ => va_P D vwCl [(o, .inr (8, [.ref tx, .ref r, .ref a, .ref r2, .ref a2, .ref x, .ref y, .ref z, .ref v, .ref h, .long sd])), (y, .inr (5, [.ref ys, .ref yk])), (ys, .inl (cI, 72, .inl yf)), (yk, .inl (cZ, 2, .inl kf)), (a, .inr (6, [.ref b])), (b, .inl (cI, 36, .inl zz_)), (x, .inr (0, [.ref xs, .int (nI 0), .int (nI nx)]))] H) e_14 hP
        have e_15 : nI 0 = nI (zPa 2 (nI k) (fun k => if kf k = 0 then cn else 0) cn) := by first | rw [zPa_n (fun h => h.1 (by assumption))] | rw [zPa_n (fun h => h.2 (Int32.not_lt.mp (by assumption)))] | (rw [zPa_y hk (by decide)]; first | rw [if_pos (by assumption)] | rw [if_neg (by assumption)])
        have hP : va_P D vwCl [(o, .inr (8, [.ref tx, .ref r, .ref a, .ref r2, .ref a2, .ref x, .ref y, .ref z, .ref v, .ref h, .long sd])), (y, .inr (5, [.ref ys, .ref yk])), (ys, .inl (cI, 72, .inl yf)), (yk, .inl (cZ, 2, .inl kf)), (a, .inr (6, [.ref b])), (b, .inl (cI, 36, .inl (zPa 2 (nI k) (fun k => if kf k = 0 then f else va_cpy yf f (k * 36) 0 36) f))), (x, .inr (0, [.ref xs, .int (nI (zPa 2 (nI k) (fun k => if kf k = 0 then cn else 0) cn)), .int (nI nx)]))] H := Eq.subst (motive := fun zz_ => va_P D vwCl [(o, .inr (8, [.ref tx, .ref r, .ref a, .ref r2, .ref a2, .ref x, .ref y, .ref z, .ref v, .ref h, .long sd])), (y, .inr (5, [.ref ys, .ref yk])), (ys, .inl (cI, 72, .inl yf)), (yk, .inl (cZ, 2, .inl kf)), (a, .inr (6, [.ref b])), (b, .inl (cI, 36, .inl (zPa 2 (nI k) (fun k => if kf k = 0 then f else va_cpy yf f (k * 36) 0 36) f))), (x, .inr (0, [.ref xs, .int zz_, .int (nI nx)]))] H) e_15 hP
        have hD : va_D A [(o, .inr (8, [.ref tx, .ref r, .ref a, .ref r2, .ref a2, .ref x, .ref y, .ref z, .ref v, .ref h, .long sd])), (y, .inr (5, [.ref ys, .ref yk])), (ys, .inl (cI, 72, .inl yf)), (yk, .inl (cZ, 2, .inl kf)), (a, .inr (6, [.ref b])), (b, .inl (cI, 36, .inl (zPa 2 (nI k) (fun k => if kf k = 0 then f else va_cpy yf f (k * 36) 0 36) f))), (x, .inr (0, [.ref xs, .int (nI (zPa 2 (nI k) (fun k => if kf k = 0 then cn else 0) cn)), .int (nI nx)]))] := zD_of hD rfl
        exact z_iret Z () (by first | rw [zPa_n (fun h => h.1 (by assumption))] | rw [zPa_n (fun h => h.2 (Int32.not_lt.mp (by assumption)))] | (rw [zPa_y hk (by decide)]; first | rw [if_pos (by assumption)] | rw [if_neg (by assumption)])) hP hS dX8_again_51
      · have c_7 : (kf k) = 0 := c_7
        refine lv_bipush (v := -3) hx hb dX8_again_22 (by decide) ?_
        have e_16 : f = zPa 2 (nI k) (fun k => if kf k = 0 then f else va_cpy yf f (k * 36) 0 36) f := by first | rw [zPa_n (fun h => h.1 (by assumption))] | rw [zPa_n (fun h => h.2 (Int32.not_lt.mp (by assumption)))] | (rw [zPa_y hk (by decide)]; first | rw [if_pos (by assumption)] | rw [if_neg (by assumption)])
        have hP : va_P D vwCl [(o, .inr (8, [.ref tx, .ref r, .ref a, .ref r2, .ref a2, .ref x, .ref y, .ref z, .ref v, .ref h, .long sd])), (y, .inr (5, [.ref ys, .ref yk])), (ys, .inl (cI, 72, .inl yf)), (yk, .inl (cZ, 2, .inl kf)), (a, .inr (6, [.ref b])), (b, .inl (cI, 36, .inl (zPa 2 (nI k) (fun k => if kf k = 0 then f else va_cpy yf f (k * 36) 0 36) f))), (x, .inr (0, [.ref xs, .int (nI cn), .int (nI nx)]))] H := Eq.subst (motive := fun zz_ => va_P D vwCl [(o, .inr (8, [.ref tx, .ref r, .ref a, .ref r2, .ref a2, .ref x, .ref y, .ref z, .ref v, .ref h, .long sd])), (y, .inr (5, [.ref ys, .ref yk])), (ys, .inl (cI, 72, .inl yf)), (yk, .inl (cZ, 2, .inl kf)), (a, .inr (6, [.ref b])), (b, .inl (cI, 36, .inl zz_)), (x, .inr (0, [.ref xs, .int (nI cn), .int (nI nx)]))] H) e_16 hP
        have e_17 : nI cn = nI (zPa 2 (nI k) (fun k => if kf k = 0 then cn else 0) cn) := by first | rw [zPa_n (fun h => h.1 (by assumption))] | rw [zPa_n (fun h => h.2 (Int32.not_lt.mp (by assumption)))] | (rw [zPa_y hk (by decide)]; first | rw [if_pos (by assumption)] | rw [if_neg (by assumption)])
        have hP : va_P D vwCl [(o, .inr (8, [.ref tx, .ref r, .ref a, .ref r2, .ref a2, .ref x, .ref y, .ref z, .ref v, .ref h, .long sd])), (y, .inr (5, [.ref ys, .ref yk])), (ys, .inl (cI, 72, .inl yf)), (yk, .inl (cZ, 2, .inl kf)), (a, .inr (6, [.ref b])), (b, .inl (cI, 36, .inl (zPa 2 (nI k) (fun k => if kf k = 0 then f else va_cpy yf f (k * 36) 0 36) f))), (x, .inr (0, [.ref xs, .int (nI (zPa 2 (nI k) (fun k => if kf k = 0 then cn else 0) cn)), .int (nI nx)]))] H := Eq.subst (motive := fun zz_ => va_P D vwCl [(o, .inr (8, [.ref tx, .ref r, .ref a, .ref r2, .ref a2, .ref x, .ref y, .ref z, .ref v, .ref h, .long sd])), (y, .inr (5, [.ref ys, .ref yk])), (ys, .inl (cI, 72, .inl yf)), (yk, .inl (cZ, 2, .inl kf)), (a, .inr (6, [.ref b])), (b, .inl (cI, 36, .inl (zPa 2 (nI k) (fun k => if kf k = 0 then f else va_cpy yf f (k * 36) 0 36) f))), (x, .inr (0, [.ref xs, .int zz_, .int (nI nx)]))] H) e_17 hP
        have hD : va_D A [(o, .inr (8, [.ref tx, .ref r, .ref a, .ref r2, .ref a2, .ref x, .ref y, .ref z, .ref v, .ref h, .long sd])), (y, .inr (5, [.ref ys, .ref yk])), (ys, .inl (cI, 72, .inl yf)), (yk, .inl (cZ, 2, .inl kf)), (a, .inr (6, [.ref b])), (b, .inl (cI, 36, .inl (zPa 2 (nI k) (fun k => if kf k = 0 then f else va_cpy yf f (k * 36) 0 36) f))), (x, .inr (0, [.ref xs, .int (nI (zPa 2 (nI k) (fun k => if kf k = 0 then cn else 0) cn)), .int (nI nx)]))] := zD_of hD rfl
        exact z_iret Z () (by first | rw [zPa_n (fun h => h.1 (by assumption))] | rw [zPa_n (fun h => h.2 (Int32.not_lt.mp (by assumption)))] | (rw [zPa_y hk (by decide)]; first | rw [if_pos (by assumption)] | rw [if_neg (by assumption)])) hP hS dX8_again_24
    · have c_4 : ¬ (x1 < 2) := c_4
      refine lv_iconst (v := -1) hx hb dX8_again_9 (by decide) ?_
      have e_18 : f = zPa 2 x1 (fun k => if kf k = 0 then f else va_cpy yf f (k * 36) 0 36) f := by first | rw [zPa_n (fun h => h.1 (by assumption))] | rw [zPa_n (fun h => h.2 (Int32.not_lt.mp (by assumption)))] | (rw [zPa_y hk (by decide)]; first | rw [if_pos (by assumption)] | rw [if_neg (by assumption)])
      have hP : va_P D vwCl [(o, .inr (8, [.ref tx, .ref r, .ref a, .ref r2, .ref a2, .ref x, .ref y, .ref z, .ref v, .ref h, .long sd])), (y, .inr (5, [.ref ys, .ref yk])), (ys, .inl (cI, 72, .inl yf)), (yk, .inl (cZ, 2, .inl kf)), (a, .inr (6, [.ref b])), (b, .inl (cI, 36, .inl (zPa 2 x1 (fun k => if kf k = 0 then f else va_cpy yf f (k * 36) 0 36) f))), (x, .inr (0, [.ref xs, .int (nI cn), .int (nI nx)]))] H := Eq.subst (motive := fun zz_ => va_P D vwCl [(o, .inr (8, [.ref tx, .ref r, .ref a, .ref r2, .ref a2, .ref x, .ref y, .ref z, .ref v, .ref h, .long sd])), (y, .inr (5, [.ref ys, .ref yk])), (ys, .inl (cI, 72, .inl yf)), (yk, .inl (cZ, 2, .inl kf)), (a, .inr (6, [.ref b])), (b, .inl (cI, 36, .inl zz_)), (x, .inr (0, [.ref xs, .int (nI cn), .int (nI nx)]))] H) e_18 hP
      have e_19 : nI cn = nI (zPa 2 x1 (fun k => if kf k = 0 then cn else 0) cn) := by first | rw [zPa_n (fun h => h.1 (by assumption))] | rw [zPa_n (fun h => h.2 (Int32.not_lt.mp (by assumption)))] | (rw [zPa_y hk (by decide)]; first | rw [if_pos (by assumption)] | rw [if_neg (by assumption)])
      have hP : va_P D vwCl [(o, .inr (8, [.ref tx, .ref r, .ref a, .ref r2, .ref a2, .ref x, .ref y, .ref z, .ref v, .ref h, .long sd])), (y, .inr (5, [.ref ys, .ref yk])), (ys, .inl (cI, 72, .inl yf)), (yk, .inl (cZ, 2, .inl kf)), (a, .inr (6, [.ref b])), (b, .inl (cI, 36, .inl (zPa 2 x1 (fun k => if kf k = 0 then f else va_cpy yf f (k * 36) 0 36) f))), (x, .inr (0, [.ref xs, .int (nI (zPa 2 x1 (fun k => if kf k = 0 then cn else 0) cn)), .int (nI nx)]))] H := Eq.subst (motive := fun zz_ => va_P D vwCl [(o, .inr (8, [.ref tx, .ref r, .ref a, .ref r2, .ref a2, .ref x, .ref y, .ref z, .ref v, .ref h, .long sd])), (y, .inr (5, [.ref ys, .ref yk])), (ys, .inl (cI, 72, .inl yf)), (yk, .inl (cZ, 2, .inl kf)), (a, .inr (6, [.ref b])), (b, .inl (cI, 36, .inl (zPa 2 x1 (fun k => if kf k = 0 then f else va_cpy yf f (k * 36) 0 36) f))), (x, .inr (0, [.ref xs, .int zz_, .int (nI nx)]))] H) e_19 hP
      have hD : va_D A [(o, .inr (8, [.ref tx, .ref r, .ref a, .ref r2, .ref a2, .ref x, .ref y, .ref z, .ref v, .ref h, .long sd])), (y, .inr (5, [.ref ys, .ref yk])), (ys, .inl (cI, 72, .inl yf)), (yk, .inl (cZ, 2, .inl kf)), (a, .inr (6, [.ref b])), (b, .inl (cI, 36, .inl (zPa 2 x1 (fun k => if kf k = 0 then f else va_cpy yf f (k * 36) 0 36) f))), (x, .inr (0, [.ref xs, .int (nI (zPa 2 x1 (fun k => if kf k = 0 then cn else 0) cn)), .int (nI nx)]))] := zD_of hD rfl
      exact z_iret Z () (by first | rw [zPa_n (fun h => h.1 (by assumption))] | rw [zPa_n (fun h => h.2 (Int32.not_lt.mp (by assumption)))] | (rw [zPa_y hk (by decide)]; first | rw [if_pos (by assumption)] | rw [if_neg (by assumption)])) hP hS dX8_again_10
