theorem dX8_isKind_0 : decode cX8_isKind 0 = .ok (.iload_n 0, 1) := by decide +kernel
theorem dX8_isKind_1 : decode cX8_isKind 1 = .ok (.ifCond .lt 12, 3) := by decide +kernel
theorem dX8_isKind_4 : decode cX8_isKind 4 = .ok (.iload_n 0, 1) := by decide +kernel
theorem dX8_isKind_5 : decode cX8_isKind 5 = .ok (.iconst 4, 1) := by decide +kernel
theorem dX8_isKind_6 : decode cX8_isKind 6 = .ok (.if_icmp .ge 7, 3) := by decide +kernel
theorem dX8_isKind_9 : decode cX8_isKind 9 = .ok (.iconst 1, 1) := by decide +kernel
theorem dX8_isKind_10 : decode cX8_isKind 10 = .ok (.goto 4, 3) := by decide +kernel
theorem dX8_isKind_13 : decode cX8_isKind 13 = .ok (.iconst 0, 1) := by decide +kernel
theorem dX8_isKind_14 : decode cX8_isKind 14 = .ok (.ireturn, 1) := by decide +kernel
theorem zd_X8_isKind : yX8_isKind.cls ≠ "java/lang/invoke/MethodHandle" ∧ yX8_isKind.cls ≠ "java/lang/invoke/VarHandle" ∧ (parseMethodDescriptor yX8_isKind.desc).map (fun d => d.parameters.length) = some 1 := by decide +kernel
set_option maxHeartbeats 4000000 in
set_option maxRecDepth 100000 in
theorem zc_X8_isKind (l : Launch) (D : va_G) (cI cZ : ClassId) (x : Int32) : zI l yX8_isKind cX8_isKind 1 .boolean 0 0 D cI cZ [.int x] [] (fun (r : Int32) (u : Unit) => r = if zkind x then 1 else 0) (fun (u : Unit) => []) := by
  refine zI_of (by decide) (Nat.le_of_ble_eq_true rfl) ?_
  intro pP eE sS mM aA bB mT cC A ls Z hP hD hS hl
  have hx := Z.1
  have hb := Z.2.1
  have hown := Z.2.2.2.2.2.1
  have hts := Z.2.2.2.2.1
  have Z : zAt pP sS mM aA mT cC D cI cZ A "SurpriseTax" cX8_isKind 1 (some .boolean) := Z
  have hl : lv_has ls 1 [(0, .int x)] := hl
  obtain ⟨H, hH⟩ : ∃ H, H = sS.heap := ⟨_, rfl⟩
  have hP : va_P D vwCl [] H := by rw [hH]; exact hP
  have hS : va_S A sS.heap H [] := by rw [hH]; exact hS
  rw [← hH]
  clear hH
  obtain ⟨locs, hlo⟩ : ∃ q : List Loc, q = [] := ⟨_, rfl⟩
  rw [← hlo] at hS ⊢
  clear hlo
  refine lv_iload_n hx hb dX8_isKind_0 rfl (lv_at hl 0 rfl) ?_
  refine lv_if_lt (tgt := 13) hx hb dX8_isKind_1 (by decide) (fun c_1 => ?_) (fun c_1 => ?_)
  · have c_1 : x < 0 := c_1
    refine lv_iconst (v := nI 0) hx hb dX8_isKind_13 (by decide) ?_
    exact z_zret Z () (by decide) (by (first | rfl | (simp [nI_one, nI_zero, c_1]; done) | (simp_all [nI_one, nI_zero]; done))) hP hS dX8_isKind_14
  · have c_1 : ¬ (x < 0) := c_1
    refine lv_iload_n hx hb dX8_isKind_4 rfl (lv_at hl 0 rfl) ?_
    refine lv_iconst (v := nI 4) hx hb dX8_isKind_5 (by decide) ?_
    refine lv_icmp_ge (tgt := 13) hx hb dX8_isKind_6 (by decide) (fun c_2 => ?_) (fun c_2 => ?_)
    · have c_2 : 4 ≤ x := c_2
      refine lv_iconst (v := nI 0) hx hb dX8_isKind_13 (by decide) ?_
      exact z_zret Z () (by decide) (by (first | rfl | (simp [nI_one, nI_zero, c_1, c_2]; done) | (simp_all [nI_one, nI_zero]; done))) hP hS dX8_isKind_14
    · have c_2 : ¬ (4 ≤ x) := c_2
      refine lv_iconst (v := nI 1) hx hb dX8_isKind_9 (by decide) ?_
      refine lv_goto (tgt := 14) hx hb dX8_isKind_10 (by decide) ?_
      exact z_zret Z () (by decide) (by (first | rfl | (simp [nI_one, nI_zero, c_1, c_2]; done) | (simp_all [nI_one, nI_zero]; done))) hP hS dX8_isKind_14

theorem dX8_power_0 : decode cX8_power 0 = .ok (.iconst 1, 1) := by decide +kernel
theorem dX8_power_1 : decode cX8_power 1 = .ok (.istore_n 2, 1) := by decide +kernel
theorem dX8_power_2 : decode cX8_power 2 = .ok (.iconst 0, 1) := by decide +kernel
theorem dX8_power_3 : decode cX8_power 3 = .ok (.istore_n 3, 1) := by decide +kernel
theorem dX8_power_4 : decode cX8_power 4 = .ok (.iload_n 3, 1) := by decide +kernel
theorem dX8_power_5 : decode cX8_power 5 = .ok (.iload_n 1, 1) := by decide +kernel
theorem dX8_power_6 : decode cX8_power 6 = .ok (.if_icmp .ge 13, 3) := by decide +kernel
theorem dX8_power_9 : decode cX8_power 9 = .ok (.iload_n 2, 1) := by decide +kernel
theorem dX8_power_10 : decode cX8_power 10 = .ok (.iload_n 0, 1) := by decide +kernel
theorem dX8_power_11 : decode cX8_power 11 = .ok (.imul, 1) := by decide +kernel
theorem dX8_power_12 : decode cX8_power 12 = .ok (.istore_n 2, 1) := by decide +kernel
theorem dX8_power_13 : decode cX8_power 13 = .ok (.iinc 3 1, 3) := by decide +kernel
theorem dX8_power_16 : decode cX8_power 16 = .ok (.goto (-12), 3) := by decide +kernel
theorem dX8_power_19 : decode cX8_power 19 = .ok (.iload_n 2, 1) := by decide +kernel
theorem dX8_power_20 : decode cX8_power 20 = .ok (.ireturn, 1) := by decide +kernel
theorem zd_X8_power : yX8_power.cls ≠ "java/lang/invoke/MethodHandle" ∧ yX8_power.cls ≠ "java/lang/invoke/VarHandle" ∧ (parseMethodDescriptor yX8_power.desc).map (fun d => d.parameters.length) = some 2 := by decide +kernel
set_option maxHeartbeats 4000000 in
set_option maxRecDepth 100000 in
theorem zc_X8_power (l : Launch) (D : va_G) (cI cZ : ClassId) (c : Nat) (d : Nat) (hd : d < 2147483648) : zI l yX8_power cX8_power 4 .int 0 0 D cI cZ [.int (nI c), .int (nI d)] [] (fun (r : Int32) (u : Unit) => r = nI (c ^ d)) (fun (u : Unit) => []) := by
  refine zI_of (by decide) (Nat.le_of_ble_eq_true rfl) ?_
  intro pP eE sS mM aA bB mT cC A ls Z hP hD hS hl
  have hx := Z.1
  have hb := Z.2.1
  have hown := Z.2.2.2.2.2.1
  have hts := Z.2.2.2.2.1
  have Z : zAt pP sS mM aA mT cC D cI cZ A "SurpriseTax" cX8_power 4 (some .int) := Z
  have hl : lv_has ls 4 [(0, .int (nI c)), (1, .int (nI d))] := hl
  obtain ⟨H, hH⟩ : ∃ H, H = sS.heap := ⟨_, rfl⟩
  have hP : va_P D vwCl [] H := by rw [hH]; exact hP
  have hS : va_S A sS.heap H [] := by rw [hH]; exact hS
  rw [← hH]
  clear hH
  obtain ⟨locs, hlo⟩ : ∃ q : List Loc, q = [] := ⟨_, rfl⟩
  rw [← hlo] at hS ⊢
  clear hlo
  refine lv_iconst (v := nI 1) hx hb dX8_power_0 (by decide) ?_
  refine lv_istore_n (lv' := [(2, .int (nI 1)), (0, .int (nI c)), (1, .int (nI d))]) hx hb dX8_power_1 rfl hl (by decide) rfl (fun ls hl => ?_)
  refine lv_iconst (v := nI 0) hx hb dX8_power_2 (by decide) ?_
  refine lv_istore_n (lv' := [(3, .int (nI 0)), (2, .int (nI 1)), (0, .int (nI c)), (1, .int (nI d))]) hx hb dX8_power_3 rfl hl (by decide) rfl (fun ls hl => ?_)
  have hl : lv_has ls 4 [(3, .int (nI 0)), (2, .int (nI 1)), (0, .int (nI c)), (1, .int (nI d))] := lv_sub hl [0, 1, 2, 3] rfl
  have e_2 : nI 1 = nI (c ^ 0) := by (first | rfl | (simp []; done) | (simp_all []; done))
  have hl : lv_has ls 4 [(3, .int (nI 0)), (2, .int (nI (c ^ 0))), (0, .int (nI c)), (1, .int (nI d))] := Eq.subst (motive := fun zz_ => lv_has ls 4 [(3, .int (nI 0)), (2, .int zz_), (0, .int (nI c)), (1, .int (nI d))]) e_2 hl
  refine z_loop (fun i H locs ls => va_P D vwCl [] H ∧ va_D A [] ∧ va_S A sS.heap H locs ∧ lv_has ls 4 [(3, .int (nI i)), (2, .int (nI (c ^ i))), (0, .int (nI c)), (1, .int (nI d))]) (d) (lo := 0) (by omega) ⟨hP, hD, hS, hl⟩ (fun i hi_i ih_1 H locs ls hI => ?_)
  obtain ⟨hP, hD, hS, hl⟩ := hI
  have hP : va_P D vwCl [] H := hP
  have hD : va_D A [] := hD
  have hl : lv_has ls 4 [(3, .int (nI i)), (2, .int (nI (c ^ i))), (0, .int (nI c)), (1, .int (nI d))] := hl
  refine lv_iload_n hx hb dX8_power_4 rfl (lv_at hl 0 rfl) ?_
  refine lv_iload_n hx hb dX8_power_5 rfl (lv_at hl 3 rfl) ?_
  refine lv_icmp_ge (tgt := 19) hx hb dX8_power_6 (by decide) (fun c_3 => ?_) (fun c_3 => ?_)
  · have c_3 := zle (i := d) (j := i) (by omega) (by omega) c_3
    have hE_ : d = i := by omega
    subst hE_
    refine lv_iload_n hx hb dX8_power_19 rfl (lv_at hl 1 rfl) ?_
    exact z_iret Z () rfl hP hS dX8_power_20
  · have c_3 := znle (i := d) (j := i) (by omega) (by omega) c_3
    refine lv_iload_n hx hb dX8_power_9 rfl (lv_at hl 1 rfl) ?_
    refine lv_iload_n hx hb dX8_power_10 rfl (lv_at hl 2 rfl) ?_
    refine lv_imul hx hb dX8_power_11 ?_
    refine z_top (y := nI ((c ^ i) * c)) (z_mul _ _) ?_
    refine lv_istore_n (lv' := [(2, .int (nI ((c ^ i) * c))), (3, .int (nI i)), (0, .int (nI c)), (1, .int (nI d))]) hx hb dX8_power_12 rfl hl (by decide) rfl (fun ls hl => ?_)
    refine lv_iinc (v := nI (i + 1)) (lv' := [(3, .int (nI (i + 1))), (2, .int (nI ((c ^ i) * c))), (0, .int (nI c)), (1, .int (nI d))]) hx hb dX8_power_13 hl (k := 1) rfl (z_inc _ 1) (by decide) rfl (fun ls hl => ?_)
    refine lv_goto (tgt := 4) hx hb dX8_power_16 (by decide) ?_
    have hl : lv_has ls 4 [(3, .int (nI (i + 1))), (2, .int (nI ((c ^ i) * c))), (0, .int (nI c)), (1, .int (nI d))] := lv_sub hl [0, 1, 2, 3] rfl
    have e_4 : nI ((c ^ i) * c) = nI (c ^ (i + 1)) := by (first | rfl | (simp [c_3]; done) | (simp_all []; done))
    have hl : lv_has ls 4 [(3, .int (nI (i + 1))), (2, .int (nI (c ^ (i + 1)))), (0, .int (nI c)), (1, .int (nI d))] := Eq.subst (motive := fun zz_ => lv_has ls 4 [(3, .int (nI (i + 1))), (2, .int zz_), (0, .int (nI c)), (1, .int (nI d))]) e_4 hl
    exact ih_1 _ _ _ (by omega) ⟨hP, hD, hS, hl⟩

theorem dX8_figureAt_0 : decode cX8_figureAt 0 = .ok (.iload_n 0, 1) := by decide +kernel
theorem dX8_figureAt_1 : decode cX8_figureAt 1 = .ok (.istore_n 3, 1) := by decide +kernel
theorem dX8_figureAt_2 : decode cX8_figureAt 2 = .ok (.iload_n 1, 1) := by decide +kernel
theorem dX8_figureAt_3 : decode cX8_figureAt 3 = .ok (.iconst 1, 1) := by decide +kernel
theorem dX8_figureAt_4 : decode cX8_figureAt 4 = .ok (.isub, 1) := by decide +kernel
theorem dX8_figureAt_5 : decode cX8_figureAt 5 = .ok (.istore 4, 2) := by decide +kernel
theorem dX8_figureAt_7 : decode cX8_figureAt 7 = .ok (.iload 4, 2) := by decide +kernel
theorem dX8_figureAt_9 : decode cX8_figureAt 9 = .ok (.iload_n 2, 1) := by decide +kernel
theorem dX8_figureAt_10 : decode cX8_figureAt 10 = .ok (.if_icmp .le 14, 3) := by decide +kernel
theorem dX8_figureAt_13 : decode cX8_figureAt 13 = .ok (.iload_n 3, 1) := by decide +kernel
theorem dX8_figureAt_14 : decode cX8_figureAt 14 = .ok (.bipush 10, 2) := by decide +kernel
theorem dX8_figureAt_16 : decode cX8_figureAt 16 = .ok (.idiv, 1) := by decide +kernel
theorem dX8_figureAt_17 : decode cX8_figureAt 17 = .ok (.istore_n 3, 1) := by decide +kernel
theorem dX8_figureAt_18 : decode cX8_figureAt 18 = .ok (.iinc 4 (-1), 3) := by decide +kernel
theorem dX8_figureAt_21 : decode cX8_figureAt 21 = .ok (.goto (-14), 3) := by decide +kernel
theorem dX8_figureAt_24 : decode cX8_figureAt 24 = .ok (.iload_n 3, 1) := by decide +kernel
theorem dX8_figureAt_25 : decode cX8_figureAt 25 = .ok (.bipush 10, 2) := by decide +kernel
theorem dX8_figureAt_27 : decode cX8_figureAt 27 = .ok (.irem, 1) := by decide +kernel
theorem dX8_figureAt_28 : decode cX8_figureAt 28 = .ok (.ireturn, 1) := by decide +kernel
theorem zd_X8_figureAt : yX8_figureAt.cls ≠ "java/lang/invoke/MethodHandle" ∧ yX8_figureAt.cls ≠ "java/lang/invoke/VarHandle" ∧ (parseMethodDescriptor yX8_figureAt.desc).map (fun d => d.parameters.length) = some 3 := by decide +kernel
set_option maxHeartbeats 4000000 in
set_option maxRecDepth 100000 in
theorem zc_X8_figureAt (l : Launch) (D : va_G) (cI cZ : ClassId) (w : Nat) (d : Nat) (i : Nat) (hw : w < 2147483648) (hd : d < 2147483648) (hi : i < d) : zI l yX8_figureAt cX8_figureAt 5 .int 0 0 D cI cZ [.int (nI w), .int (nI d), .int (nI i)] [] (fun (r : Int32) (u : Unit) => r = nI (zdi w d i)) (fun (u : Unit) => []) := by
  refine zI_of (by decide) (Nat.le_of_ble_eq_true rfl) ?_
  intro pP eE sS mM aA bB mT cC A ls Z hP hD hS hl
  have hx := Z.1
  have hb := Z.2.1
  have hown := Z.2.2.2.2.2.1
  have hts := Z.2.2.2.2.1
  have Z : zAt pP sS mM aA mT cC D cI cZ A "SurpriseTax" cX8_figureAt 5 (some .int) := Z
  have hl : lv_has ls 5 [(0, .int (nI w)), (1, .int (nI d)), (2, .int (nI i))] := hl
  obtain ⟨H, hH⟩ : ∃ H, H = sS.heap := ⟨_, rfl⟩
  have hP : va_P D vwCl [] H := by rw [hH]; exact hP
  have hS : va_S A sS.heap H [] := by rw [hH]; exact hS
  rw [← hH]
  clear hH
  obtain ⟨locs, hlo⟩ : ∃ q : List Loc, q = [] := ⟨_, rfl⟩
  rw [← hlo] at hS ⊢
  clear hlo
  refine lv_iload_n hx hb dX8_figureAt_0 rfl (lv_at hl 0 rfl) ?_
  refine lv_istore_n (lv' := [(3, .int (nI w)), (0, .int (nI w)), (1, .int (nI d)), (2, .int (nI i))]) hx hb dX8_figureAt_1 rfl hl (by decide) rfl (fun ls hl => ?_)
  refine lv_iload_n hx hb dX8_figureAt_2 rfl (lv_at hl 2 rfl) ?_
  refine lv_iconst (v := nI 1) hx hb dX8_figureAt_3 (by decide) ?_
  refine lv_isub hx hb dX8_figureAt_4 ?_
  refine z_top (y := nI (d - 1)) (z_sub' (by first | omega | exact zdiv_lt (by assumption))) ?_
  refine lv_istore (lv' := [(4, .int (nI (d - 1))), (3, .int (nI w)), (0, .int (nI w)), (1, .int (nI d)), (2, .int (nI i))]) hx hb dX8_figureAt_5 hl (by decide) rfl (fun ls hl => ?_)
  have hl : lv_has ls 5 [(4, .int (nI (d - 1))), (3, .int (nI w)), (0, .int (nI w)), (1, .int (nI d)), (2, .int (nI i))] := lv_sub hl [0, 1, 2, 3, 4] rfl
  have e_2 : nI (d - 1) = nI (d - 1 - 0) := by first | rfl | (rw [Nat.pow_zero, Nat.div_one])
  have hl : lv_has ls 5 [(4, .int (nI (d - 1 - 0))), (3, .int (nI w)), (0, .int (nI w)), (1, .int (nI d)), (2, .int (nI i))] := Eq.subst (motive := fun zz_ => lv_has ls 5 [(4, .int zz_), (3, .int (nI w)), (0, .int (nI w)), (1, .int (nI d)), (2, .int (nI i))]) e_2 hl
  have e_3 : nI w = nI (w / 10 ^ 0) := by first | rfl | (rw [Nat.pow_zero, Nat.div_one])
  have hl : lv_has ls 5 [(4, .int (nI (d - 1 - 0))), (3, .int (nI (w / 10 ^ 0))), (0, .int (nI w)), (1, .int (nI d)), (2, .int (nI i))] := Eq.subst (motive := fun zz_ => lv_has ls 5 [(4, .int (nI (d - 1 - 0))), (3, .int zz_), (0, .int (nI w)), (1, .int (nI d)), (2, .int (nI i))]) e_3 hl
  refine z_loop (fun t H locs ls => va_P D vwCl [] H ∧ va_D A [] ∧ va_S A sS.heap H locs ∧ lv_has ls 5 [(4, .int (nI (d - 1 - t))), (3, .int (nI (w / 10 ^ t))), (0, .int (nI w)), (1, .int (nI d)), (2, .int (nI i))]) (d - 1 - i) (lo := 0) (by omega) ⟨hP, hD, hS, hl⟩ (fun t hi_t ih_1 H locs ls hI => ?_)
  obtain ⟨hP, hD, hS, hl⟩ := hI
  have hP : va_P D vwCl [] H := hP
  have hD : va_D A [] := hD
  have hl : lv_has ls 5 [(4, .int (nI (d - 1 - t))), (3, .int (nI (w / 10 ^ t))), (0, .int (nI w)), (1, .int (nI d)), (2, .int (nI i))] := hl
  refine lv_iload hx hb dX8_figureAt_7 (lv_at hl 0 rfl) ?_
  refine lv_iload_n hx hb dX8_figureAt_9 rfl (lv_at hl 4 rfl) ?_
  refine lv_icmp_le (tgt := 24) hx hb dX8_figureAt_10 (by decide) (fun c_4 => ?_) (fun c_4 => ?_)
  · have c_4 := zle (i := d - 1 - t) (j := i) (by first | omega | exact zdiv_lt (by assumption)) (by first | omega | exact zdiv_lt (by assumption)) c_4
    have hE_ : d - 1 - i = t := by omega
    subst hE_
    refine lv_iload_n hx hb dX8_figureAt_24 rfl (lv_at hl 1 rfl) ?_
    refine lv_bipush (v := nI 10) hx hb dX8_figureAt_25 (by decide) ?_
    refine lv_irem hx hb dX8_figureAt_27 (by decide) ?_
    refine z_top (y := nI ((w / 10 ^ (d - 1 - i)) % 10)) (pk_rem (by first | omega | exact zdiv_lt (by assumption)) (by decide) (by decide)) ?_
    exact z_iret Z () (by (first | rfl | (simp [c_4]; done) | (simp_all []; done))) hP hS dX8_figureAt_28
  · have c_4 := znle (i := d - 1 - t) (j := i) (by first | omega | exact zdiv_lt (by assumption)) (by first | omega | exact zdiv_lt (by assumption)) c_4
    refine lv_iload_n hx hb dX8_figureAt_13 rfl (lv_at hl 1 rfl) ?_
    refine lv_bipush (v := nI 10) hx hb dX8_figureAt_14 (by decide) ?_
    refine lv_idiv hx hb dX8_figureAt_16 (by decide) ?_
    refine z_top (y := nI ((w / 10 ^ t) / 10)) (pk_div (by first | omega | exact zdiv_lt (by assumption)) (by decide) (by decide)) ?_
    refine lv_istore_n (lv' := [(3, .int (nI ((w / 10 ^ t) / 10))), (4, .int (nI (d - 1 - t))), (0, .int (nI w)), (1, .int (nI d)), (2, .int (nI i))]) hx hb dX8_figureAt_17 rfl hl (by decide) rfl (fun ls hl => ?_)
    refine lv_iinc (v := nI (d - 1 - t - 1)) (lv' := [(4, .int (nI (d - 1 - t - 1))), (3, .int (nI ((w / 10 ^ t) / 10))), (0, .int (nI w)), (1, .int (nI d)), (2, .int (nI i))]) hx hb dX8_figureAt_18 hl (k := 1) rfl (z_dec1 (by omega)) (by decide) rfl (fun ls hl => ?_)
    refine lv_goto (tgt := 7) hx hb dX8_figureAt_21 (by decide) ?_
    have hl : lv_has ls 5 [(4, .int (nI (d - 1 - t - 1))), (3, .int (nI ((w / 10 ^ t) / 10))), (0, .int (nI w)), (1, .int (nI d)), (2, .int (nI i))] := lv_sub hl [0, 1, 2, 3, 4] rfl
    have e_5 : nI (d - 1 - t - 1) = nI (d - 1 - (t + 1)) := by first | exact congrArg nI zdiv_s | exact congrArg nI (by omega)
    have hl : lv_has ls 5 [(4, .int (nI (d - 1 - (t + 1)))), (3, .int (nI ((w / 10 ^ t) / 10))), (0, .int (nI w)), (1, .int (nI d)), (2, .int (nI i))] := Eq.subst (motive := fun zz_ => lv_has ls 5 [(4, .int zz_), (3, .int (nI ((w / 10 ^ t) / 10))), (0, .int (nI w)), (1, .int (nI d)), (2, .int (nI i))]) e_5 hl
    have e_6 : nI ((w / 10 ^ t) / 10) = nI (w / 10 ^ (t + 1)) := by first | exact congrArg nI zdiv_s | exact congrArg nI (by omega)
    have hl : lv_has ls 5 [(4, .int (nI (d - 1 - (t + 1)))), (3, .int (nI (w / 10 ^ (t + 1)))), (0, .int (nI w)), (1, .int (nI d)), (2, .int (nI i))] := Eq.subst (motive := fun zz_ => lv_has ls 5 [(4, .int (nI (d - 1 - (t + 1)))), (3, .int zz_), (0, .int (nI w)), (1, .int (nI d)), (2, .int (nI i))]) e_6 hl
    exact ih_1 _ _ _ (by omega) ⟨hP, hD, hS, hl⟩

theorem dX8_kindAt_0 : decode cX8_kindAt 0 = .ok (.iload_n 0, 1) := by decide +kernel
theorem dX8_kindAt_1 : decode cX8_kindAt 1 = .ok (.iconst 2, 1) := by decide +kernel
theorem dX8_kindAt_2 : decode cX8_kindAt 2 = .ok (.iload_n 1, 1) := by decide +kernel
theorem dX8_kindAt_3 : decode cX8_kindAt 3 = .ok (.iconst 1, 1) := by decide +kernel
theorem dX8_kindAt_4 : decode cX8_kindAt 4 = .ok (.isub, 1) := by decide +kernel
theorem dX8_kindAt_5 : decode cX8_kindAt 5 = .ok (.iload_n 2, 1) := by decide +kernel
theorem dX8_kindAt_6 : decode cX8_kindAt 6 = .ok (.isub, 1) := by decide +kernel
theorem dX8_kindAt_7 : decode cX8_kindAt 7 = .ok (.imul, 1) := by decide +kernel
theorem dX8_kindAt_8 : decode cX8_kindAt 8 = .ok (.ishr, 1) := by decide +kernel
theorem dX8_kindAt_9 : decode cX8_kindAt 9 = .ok (.iconst 3, 1) := by decide +kernel
theorem dX8_kindAt_10 : decode cX8_kindAt 10 = .ok (.iand, 1) := by decide +kernel
theorem dX8_kindAt_11 : decode cX8_kindAt 11 = .ok (.ireturn, 1) := by decide +kernel
theorem zd_X8_kindAt : yX8_kindAt.cls ≠ "java/lang/invoke/MethodHandle" ∧ yX8_kindAt.cls ≠ "java/lang/invoke/VarHandle" ∧ (parseMethodDescriptor yX8_kindAt.desc).map (fun d => d.parameters.length) = some 3 := by decide +kernel
set_option maxHeartbeats 4000000 in
set_option maxRecDepth 100000 in
theorem zc_X8_kindAt (l : Launch) (D : va_G) (cI cZ : ClassId) (w : Nat) (d : Nat) (i : Nat) (hw : w < 2147483648) (hd : d ≤ 4) (hi : i < d) : zI l yX8_kindAt cX8_kindAt 3 .int 0 0 D cI cZ [.int (nI w), .int (nI d), .int (nI i)] [] (fun (r : Int32) (u : Unit) => r = nI (zki w d i)) (fun (u : Unit) => []) := by
  refine zI_of (by decide) (Nat.le_of_ble_eq_true rfl) ?_
  intro pP eE sS mM aA bB mT cC A ls Z hP hD hS hl
  have hx := Z.1
  have hb := Z.2.1
  have hown := Z.2.2.2.2.2.1
  have hts := Z.2.2.2.2.1
  have Z : zAt pP sS mM aA mT cC D cI cZ A "SurpriseTax" cX8_kindAt 3 (some .int) := Z
  have hl : lv_has ls 3 [(0, .int (nI w)), (1, .int (nI d)), (2, .int (nI i))] := hl
  obtain ⟨H, hH⟩ : ∃ H, H = sS.heap := ⟨_, rfl⟩
  have hP : va_P D vwCl [] H := by rw [hH]; exact hP
  have hS : va_S A sS.heap H [] := by rw [hH]; exact hS
  rw [← hH]
  clear hH
  obtain ⟨locs, hlo⟩ : ∃ q : List Loc, q = [] := ⟨_, rfl⟩
  rw [← hlo] at hS ⊢
  clear hlo
  refine lv_iload_n hx hb dX8_kindAt_0 rfl (lv_at hl 0 rfl) ?_
  refine lv_iconst (v := nI 2) hx hb dX8_kindAt_1 (by decide) ?_
  refine lv_iload_n hx hb dX8_kindAt_2 rfl (lv_at hl 1 rfl) ?_
  refine lv_iconst (v := nI 1) hx hb dX8_kindAt_3 (by decide) ?_
  refine lv_isub hx hb dX8_kindAt_4 ?_
  refine z_top (y := nI (d - 1)) (z_sub' (by omega)) ?_
  refine lv_iload_n hx hb dX8_kindAt_5 rfl (lv_at hl 2 rfl) ?_
  refine lv_isub hx hb dX8_kindAt_6 ?_
  refine z_top (y := nI ((d - 1) - i)) (z_sub' (by omega)) ?_
  refine lv_imul hx hb dX8_kindAt_7 ?_
  refine z_top (y := nI (2 * ((d - 1) - i))) (z_mul _ _) ?_
  refine lv_ishr hx hb dX8_kindAt_8 ?_
  refine z_top (y := (nI w) >>> ((nI (2 * ((d - 1) - i))) &&& 31)) rfl ?_
  refine lv_iconst (v := nI 3) hx hb dX8_kindAt_9 (by decide) ?_
  refine lv_iand hx hb dX8_kindAt_10 ?_
  refine z_top (y := ((nI w) >>> ((nI (2 * ((d - 1) - i))) &&& 31)) &&& 3) rfl ?_
  refine z_top (y := nI (zki w d i)) (zkat hw (by omega)) ?_
  exact z_iret Z () rfl hP hS dX8_kindAt_11

theorem dX8_commonDivisor_0 : decode cX8_commonDivisor 0 = .ok (.iload_n 0, 1) := by decide +kernel
theorem dX8_commonDivisor_1 : decode cX8_commonDivisor 1 = .ok (.istore_n 2, 1) := by decide +kernel
theorem dX8_commonDivisor_2 : decode cX8_commonDivisor 2 = .ok (.iload_n 1, 1) := by decide +kernel
theorem dX8_commonDivisor_3 : decode cX8_commonDivisor 3 = .ok (.istore_n 3, 1) := by decide +kernel
theorem dX8_commonDivisor_4 : decode cX8_commonDivisor 4 = .ok (.iconst 0, 1) := by decide +kernel
theorem dX8_commonDivisor_5 : decode cX8_commonDivisor 5 = .ok (.istore 4, 2) := by decide +kernel
theorem dX8_commonDivisor_7 : decode cX8_commonDivisor 7 = .ok (.iload 4, 2) := by decide +kernel
theorem dX8_commonDivisor_9 : decode cX8_commonDivisor 9 = .ok (.bipush 64, 2) := by decide +kernel
theorem dX8_commonDivisor_11 : decode cX8_commonDivisor 11 = .ok (.if_icmp .ge 23, 3) := by decide +kernel
theorem dX8_commonDivisor_14 : decode cX8_commonDivisor 14 = .ok (.iload_n 3, 1) := by decide +kernel
theorem dX8_commonDivisor_15 : decode cX8_commonDivisor 15 = .ok (.ifCond .eq 19, 3) := by decide +kernel
theorem dX8_commonDivisor_18 : decode cX8_commonDivisor 18 = .ok (.iload_n 2, 1) := by decide +kernel
theorem dX8_commonDivisor_19 : decode cX8_commonDivisor 19 = .ok (.iload_n 3, 1) := by decide +kernel
theorem dX8_commonDivisor_20 : decode cX8_commonDivisor 20 = .ok (.irem, 1) := by decide +kernel
theorem dX8_commonDivisor_21 : decode cX8_commonDivisor 21 = .ok (.istore 5, 2) := by decide +kernel
theorem dX8_commonDivisor_23 : decode cX8_commonDivisor 23 = .ok (.iload_n 3, 1) := by decide +kernel
theorem dX8_commonDivisor_24 : decode cX8_commonDivisor 24 = .ok (.istore_n 2, 1) := by decide +kernel
theorem dX8_commonDivisor_25 : decode cX8_commonDivisor 25 = .ok (.iload 5, 2) := by decide +kernel
theorem dX8_commonDivisor_27 : decode cX8_commonDivisor 27 = .ok (.istore_n 3, 1) := by decide +kernel
theorem dX8_commonDivisor_28 : decode cX8_commonDivisor 28 = .ok (.iinc 4 1, 3) := by decide +kernel
theorem dX8_commonDivisor_31 : decode cX8_commonDivisor 31 = .ok (.goto (-24), 3) := by decide +kernel
theorem dX8_commonDivisor_34 : decode cX8_commonDivisor 34 = .ok (.iload_n 2, 1) := by decide +kernel
theorem dX8_commonDivisor_35 : decode cX8_commonDivisor 35 = .ok (.ireturn, 1) := by decide +kernel
theorem zd_X8_commonDivisor : yX8_commonDivisor.cls ≠ "java/lang/invoke/MethodHandle" ∧ yX8_commonDivisor.cls ≠ "java/lang/invoke/VarHandle" ∧ (parseMethodDescriptor yX8_commonDivisor.desc).map (fun d => d.parameters.length) = some 2 := by decide +kernel
set_option maxHeartbeats 4000000 in
set_option maxRecDepth 100000 in
theorem zc_X8_commonDivisor (l : Launch) (D : va_G) (cI cZ : ClassId) (x : Nat) (y : Nat) (hx0 : x < 2147483648) (hy0 : y ≤ 1000) : zI l yX8_commonDivisor cX8_commonDivisor 6 .int 0 0 D cI cZ [.int (nI x), .int (nI y)] [] (fun (r : Int32) (u : Unit) => r = nI (Nat.gcd x y)) (fun (u : Unit) => []) := by
  refine zI_of (by decide) (Nat.le_of_ble_eq_true rfl) ?_
  intro pP eE sS mM aA bB mT cC A ls Z hP hD hS hl
  have hx := Z.1
  have hb := Z.2.1
  have hown := Z.2.2.2.2.2.1
  have hts := Z.2.2.2.2.1
  have Z : zAt pP sS mM aA mT cC D cI cZ A "SurpriseTax" cX8_commonDivisor 6 (some .int) := Z
  have hl : lv_has ls 6 [(0, .int (nI x)), (1, .int (nI y))] := hl
  obtain ⟨H, hH⟩ : ∃ H, H = sS.heap := ⟨_, rfl⟩
  have hP : va_P D vwCl [] H := by rw [hH]; exact hP
  have hS : va_S A sS.heap H [] := by rw [hH]; exact hS
  rw [← hH]
  clear hH
  obtain ⟨locs, hlo⟩ : ∃ q : List Loc, q = [] := ⟨_, rfl⟩
  rw [← hlo] at hS ⊢
  clear hlo
  refine lv_iload_n hx hb dX8_commonDivisor_0 rfl (lv_at hl 0 rfl) ?_
  refine lv_istore_n (lv' := [(2, .int (nI x)), (0, .int (nI x)), (1, .int (nI y))]) hx hb dX8_commonDivisor_1 rfl hl (by decide) rfl (fun ls hl => ?_)
  refine lv_iload_n hx hb dX8_commonDivisor_2 rfl (lv_at hl 2 rfl) ?_
  refine lv_istore_n (lv' := [(3, .int (nI y)), (2, .int (nI x)), (0, .int (nI x)), (1, .int (nI y))]) hx hb dX8_commonDivisor_3 rfl hl (by decide) rfl (fun ls hl => ?_)
  refine lv_iconst (v := nI 0) hx hb dX8_commonDivisor_4 (by decide) ?_
  refine lv_istore (lv' := [(4, .int (nI 0)), (3, .int (nI y)), (2, .int (nI x)), (0, .int (nI x)), (1, .int (nI y))]) hx hb dX8_commonDivisor_5 hl (by decide) rfl (fun ls hl => ?_)
  have hl : lv_has ls 6 [(4, .int (nI 0)), (3, .int (nI y)), (2, .int (nI x)), (0, .int (nI x)), (1, .int (nI y))] := lv_sub hl [0, 1, 2, 3, 4] rfl
  refine z_loopm (fun (x_ : Nat × Nat × Nat) H locs ls => va_P D vwCl [] H ∧ va_D A [] ∧ va_S A sS.heap H locs ∧ lv_has ls 6 [(4, .int (nI x_.1)), (3, .int (nI x_.2.2)), (2, .int (nI x_.2.1)), (0, .int (nI x)), (1, .int (nI y))] ∧ (Nat.gcd x_.2.1 x_.2.2 = Nat.gcd x y) ∧ (zgI x_.1 x_.2.1 x_.2.2) ∧ (x_.1 ≤ 64)) (fun x_ => 64 - x_.1) (0, x, y) ⟨hP, hD, hS, hl, (by first | rfl | exact Or.inl ⟨rfl, hx0, hy0⟩ | omega), (by first | rfl | exact Or.inl ⟨rfl, hx0, hy0⟩ | omega), (by first | rfl | exact Or.inl ⟨rfl, hx0, hy0⟩ | omega)⟩ (fun x_ ih_1 H locs ls hI => ?_)
  obtain ⟨i, p, q⟩ := x_
  obtain ⟨hP, hD, hS, hl, hv7_0, hv7_1, hv7_2⟩ := hI
  dsimp only at ih_1 hv7_0 hv7_1 hv7_2
  have hv7_0 : Nat.gcd p q = Nat.gcd x y := hv7_0
  have hv7_1 : zgI i p q := hv7_1
  have hv7_2 : i ≤ 64 := hv7_2
  have hP : va_P D vwCl [] H := hP
  have hD : va_D A [] := hD
  have hl : lv_has ls 6 [(4, .int (nI i)), (3, .int (nI q)), (2, .int (nI p)), (0, .int (nI x)), (1, .int (nI y))] := hl
  have hgl := zgI_lt hv7_1
  refine lv_iload hx hb dX8_commonDivisor_7 (lv_at hl 0 rfl) ?_
  refine lv_bipush (v := nI 64) hx hb dX8_commonDivisor_9 (by decide) ?_
  refine lv_icmp_ge (tgt := 34) hx hb dX8_commonDivisor_11 (by decide) (fun c_2 => ?_) (fun c_2 => ?_)
  · have c_2 := zle (i := 64) (j := i) (by decide) (by omega) c_2
    have hi64 : i = 64 := by omega
    have hq0 : q = 0 := zgI_end (by rw [← hi64]; exact hv7_1)
    refine lv_iload_n hx hb dX8_commonDivisor_34 rfl (lv_at hl 2 rfl) ?_
    have hg : p = Nat.gcd x y := by rw [← hv7_0, show q = 0 by assumption, Nat.gcd_zero_right]
    exact z_iret Z () (by first | rfl | exact congrArg nI hg) hP hS dX8_commonDivisor_35
  · have c_2 := znle (i := 64) (j := i) (by decide) (by omega) c_2
    refine lv_iload_n hx hb dX8_commonDivisor_14 rfl (lv_at hl 1 rfl) ?_
    refine lv_if_eq (tgt := 34) hx hb dX8_commonDivisor_15 (by decide) (fun c_3 => ?_) (fun c_3 => ?_)
    · have c_3 := zeq (i := q) (j := 0) (by omega) (by decide) c_3
      refine lv_iload_n hx hb dX8_commonDivisor_34 rfl (lv_at hl 2 rfl) ?_
      have hg : p = Nat.gcd x y := by rw [← hv7_0, show q = 0 by assumption, Nat.gcd_zero_right]
      exact z_iret Z () (by first | rfl | exact congrArg nI hg) hP hS dX8_commonDivisor_35
    · have c_3 := zne (i := q) (j := 0) c_3
      refine lv_iload_n hx hb dX8_commonDivisor_18 rfl (lv_at hl 2 rfl) ?_
      refine lv_iload_n hx hb dX8_commonDivisor_19 rfl (lv_at hl 1 rfl) ?_
      refine lv_irem hx hb dX8_commonDivisor_20 (by assumption) ?_
      refine z_top (y := nI (p % q)) (pk_rem (by omega) (by omega) (by omega)) ?_
      refine lv_istore (lv' := [(5, .int (nI (p % q))), (4, .int (nI i)), (3, .int (nI q)), (2, .int (nI p)), (0, .int (nI x)), (1, .int (nI y))]) hx hb dX8_commonDivisor_21 hl (by decide) rfl (fun ls hl => ?_)
      refine lv_iload_n hx hb dX8_commonDivisor_23 rfl (lv_at hl 2 rfl) ?_
      refine lv_istore_n (lv' := [(2, .int (nI q)), (5, .int (nI (p % q))), (4, .int (nI i)), (3, .int (nI q)), (0, .int (nI x)), (1, .int (nI y))]) hx hb dX8_commonDivisor_24 rfl hl (by decide) rfl (fun ls hl => ?_)
      refine lv_iload hx hb dX8_commonDivisor_25 (lv_at hl 1 rfl) ?_
      refine lv_istore_n (lv' := [(3, .int (nI (p % q))), (2, .int (nI q)), (5, .int (nI (p % q))), (4, .int (nI i)), (0, .int (nI x)), (1, .int (nI y))]) hx hb dX8_commonDivisor_27 rfl hl (by decide) rfl (fun ls hl => ?_)
      refine lv_iinc (v := nI (i + 1)) (lv' := [(4, .int (nI (i + 1))), (3, .int (nI (p % q))), (2, .int (nI q)), (5, .int (nI (p % q))), (0, .int (nI x)), (1, .int (nI y))]) hx hb dX8_commonDivisor_28 hl (k := 3) rfl (z_inc _ 1) (by decide) rfl (fun ls hl => ?_)
      refine lv_goto (tgt := 7) hx hb dX8_commonDivisor_31 (by decide) ?_
      have hl : lv_has ls 6 [(4, .int (nI (i + 1))), (3, .int (nI (p % q))), (2, .int (nI q)), (0, .int (nI x)), (1, .int (nI y))] := lv_sub hl [0, 1, 2, 4, 5] rfl
      exact ih_1 (i + 1, q, p % q) _ _ _ (by omega) ⟨hP, hD, hS, hl, (by first | exact zgcd_s (by assumption) | exact zgI_s (by assumption) (by assumption) | omega), (by first | exact zgcd_s (by assumption) | exact zgI_s (by assumption) (by assumption) | omega), (by first | exact zgcd_s (by assumption) | exact zgI_s (by assumption) (by assumption) | omega)⟩

theorem dX8_inLeastTerms_0 : decode cX8_inLeastTerms 0 = .ok (.iload_n 0, 1) := by decide +kernel
theorem dX8_inLeastTerms_1 : decode cX8_inLeastTerms 1 = .ok (.iload_n 1, 1) := by decide +kernel
theorem dX8_inLeastTerms_2 : decode cX8_inLeastTerms 2 = .ok (.invokestatic 286, 3) := by decide +kernel
theorem dX8_inLeastTerms_5 : decode cX8_inLeastTerms 5 = .ok (.istore_n 3, 1) := by decide +kernel
theorem dX8_inLeastTerms_6 : decode cX8_inLeastTerms 6 = .ok (.iload_n 3, 1) := by decide +kernel
theorem dX8_inLeastTerms_7 : decode cX8_inLeastTerms 7 = .ok (.ifCond .ne 6, 3) := by decide +kernel
theorem dX8_inLeastTerms_13 : decode cX8_inLeastTerms 13 = .ok (.iload_n 2, 1) := by decide +kernel
theorem dX8_inLeastTerms_14 : decode cX8_inLeastTerms 14 = .ok (.ifCond .eq 9, 3) := by decide +kernel
theorem dX8_inLeastTerms_17 : decode cX8_inLeastTerms 17 = .ok (.iload_n 0, 1) := by decide +kernel
theorem dX8_inLeastTerms_18 : decode cX8_inLeastTerms 18 = .ok (.iload_n 3, 1) := by decide +kernel
theorem dX8_inLeastTerms_19 : decode cX8_inLeastTerms 19 = .ok (.idiv, 1) := by decide +kernel
theorem dX8_inLeastTerms_20 : decode cX8_inLeastTerms 20 = .ok (.goto 6, 3) := by decide +kernel
theorem dX8_inLeastTerms_23 : decode cX8_inLeastTerms 23 = .ok (.iload_n 1, 1) := by decide +kernel
theorem dX8_inLeastTerms_24 : decode cX8_inLeastTerms 24 = .ok (.iload_n 3, 1) := by decide +kernel
theorem dX8_inLeastTerms_25 : decode cX8_inLeastTerms 25 = .ok (.idiv, 1) := by decide +kernel
theorem dX8_inLeastTerms_26 : decode cX8_inLeastTerms 26 = .ok (.ireturn, 1) := by decide +kernel
theorem zd_X8_inLeastTerms : yX8_inLeastTerms.cls ≠ "java/lang/invoke/MethodHandle" ∧ yX8_inLeastTerms.cls ≠ "java/lang/invoke/VarHandle" ∧ (parseMethodDescriptor yX8_inLeastTerms.desc).map (fun d => d.parameters.length) = some 3 := by decide +kernel
set_option maxHeartbeats 4000000 in
set_option maxRecDepth 100000 in
theorem zc_X8_inLeastTerms (l : Launch) (D : va_G) (cI cZ : ClassId) (x : Nat) (y : Nat) (u1 : Int32) (hx0 : x < 2147483648) (hy0 : y ≤ 1000) (hy1 : 0 < y) : zI l yX8_inLeastTerms cX8_inLeastTerms 4 .int 1 25 D cI cZ [.int (nI x), .int (nI y), .int u1] [] (fun (r : Int32) (u : Unit) => r = if u1 = 0 then nI (y / Nat.gcd x y) else nI (x / Nat.gcd x y)) (fun (u : Unit) => []) := by
  refine zI_of (by decide) (Nat.le_of_ble_eq_true rfl) ?_
  intro pP eE sS mM aA bB mT cC A ls Z hP hD hS hl
  have hx := Z.1
  have hb := Z.2.1
  have hown := Z.2.2.2.2.2.1
  have hts := Z.2.2.2.2.1
  have Z : zAt pP sS mM aA mT cC D cI cZ A "SurpriseTax" cX8_inLeastTerms 4 (some .int) := Z
  have hl : lv_has ls 4 [(0, .int (nI x)), (1, .int (nI y)), (2, .int u1)] := hl
  obtain ⟨H, hH⟩ : ∃ H, H = sS.heap := ⟨_, rfl⟩
  have hP : va_P D vwCl [] H := by rw [hH]; exact hP
  have hS : va_S A sS.heap H [] := by rw [hH]; exact hS
  rw [← hH]
  clear hH
  obtain ⟨locs, hlo⟩ : ∃ q : List Loc, q = [] := ⟨_, rfl⟩
  rw [← hlo] at hS ⊢
  clear hlo
  have hg0 : 0 < Nat.gcd x y := Nat.gcd_pos_of_pos_right x hy1
  have hg1 : Nat.gcd x y ≤ y := Nat.gcd_le_right x hy1
  refine lv_iload_n hx hb dX8_inLeastTerms_0 rfl (lv_at hl 0 rfl) ?_
  refine lv_iload_n hx hb dX8_inLeastTerms_1 rfl (lv_at hl 1 rfl) ?_
  refine z_callSi (As := [.int (nI x), .int (nI y)]) (rest := []) Z hP hD hS hl.1 (zc_X8_commonDivisor l D cI cZ x y (by omega) (by omega)) zm439 zm440 zm30 zm441 zd_X8_commonDivisor ⟨Nat.le_of_ble_eq_true rfl, Nat.le_of_ble_eq_true rfl⟩ ⟨Nat.zero_le _, Nat.zero_le _⟩ [] rfl (by decide) (fun _ => rfl) rfl (Nat.le_of_ble_eq_true rfl) rfl dX8_inLeastTerms_2 (fun r_1 u H locs h_2 hP hD hS => ?_)
  have hP : va_P D vwCl [] H := hP
  have hD : va_D A [] := hD
  have h_2 : r_1 = nI (Nat.gcd x y) := h_2
  subst h_2
  refine lv_istore_n (lv' := [(3, .int (nI (Nat.gcd x y))), (0, .int (nI x)), (1, .int (nI y)), (2, .int u1)]) hx hb dX8_inLeastTerms_5 rfl hl (by decide) rfl (fun ls hl => ?_)
  refine lv_iload_n hx hb dX8_inLeastTerms_6 rfl (lv_at hl 0 rfl) ?_
  refine lv_if_ne (tgt := 13) hx hb dX8_inLeastTerms_7 (by decide) (fun c_3 => ?_) (fun c_3 => ?_)
  · have c_3 := zne (i := Nat.gcd x y) (j := 0) c_3
    refine lv_iload_n hx hb dX8_inLeastTerms_13 rfl (lv_at hl 3 rfl) ?_
    refine lv_if_eq (tgt := 23) hx hb dX8_inLeastTerms_14 (by decide) (fun c_4 => ?_) (fun c_4 => ?_)
    · have c_4 : u1 = 0 := c_4
      refine lv_iload_n hx hb dX8_inLeastTerms_23 rfl (lv_at hl 2 rfl) ?_
      refine lv_iload_n hx hb dX8_inLeastTerms_24 rfl (lv_at hl 0 rfl) ?_
      refine lv_idiv hx hb dX8_inLeastTerms_25 (by exact fun h => by have := zeq (i := Nat.gcd x y) (j := 0) (by omega) (by decide) h; omega) ?_
      refine z_top (y := nI (y / (Nat.gcd x y))) (pk_div (by omega) (by omega) (by omega)) ?_
      exact z_iret Z () (by (first | rfl | (simp [c_3, c_4]; done) | (simp_all []; done))) hP hS dX8_inLeastTerms_26
    · have c_4 : ¬ (u1 = 0) := c_4
      refine lv_iload_n hx hb dX8_inLeastTerms_17 rfl (lv_at hl 1 rfl) ?_
      refine lv_iload_n hx hb dX8_inLeastTerms_18 rfl (lv_at hl 0 rfl) ?_
      refine lv_idiv hx hb dX8_inLeastTerms_19 (by exact fun h => by have := zeq (i := Nat.gcd x y) (j := 0) (by omega) (by decide) h; omega) ?_
      refine z_top (y := nI (x / (Nat.gcd x y))) (pk_div (by omega) (by omega) (by omega)) ?_
      refine lv_goto (tgt := 26) hx hb dX8_inLeastTerms_20 (by decide) ?_
      exact z_iret Z () (by (first | rfl | (simp [c_3, c_4]; done) | (simp_all []; done))) hP hS dX8_inLeastTerms_26
  · have c_3 := zeq (i := Nat.gcd x y) (j := 0) (by omega) (by decide) c_3
    exact absurd c_3 (by omega)

theorem dX1_choose_0 : decode cX1_choose 0 = .ok (.aload_n 0, 1) := by decide +kernel
theorem dX1_choose_1 : decode cX1_choose 1 = .ok (.bipush (-9), 2) := by decide +kernel
theorem dX1_choose_3 : decode cX1_choose 3 = .ok (.putfield 18, 3) := by decide +kernel
theorem dX1_choose_6 : decode cX1_choose 6 = .ok (.aload_n 0, 1) := by decide +kernel
theorem dX1_choose_7 : decode cX1_choose 7 = .ok (.aload_n 1, 1) := by decide +kernel
theorem dX1_choose_8 : decode cX1_choose 8 = .ok (.aload_n 0, 1) := by decide +kernel
theorem dX1_choose_9 : decode cX1_choose 9 = .ok (.getfield 12, 3) := by decide +kernel
theorem dX1_choose_12 : decode cX1_choose 12 = .ok (.iload_n 2, 1) := by decide +kernel
theorem dX1_choose_13 : decode cX1_choose 13 = .ok (.invokevirtual 47, 3) := by decide +kernel
theorem dX1_choose_16 : decode cX1_choose 16 = .ok (.putfield 22, 3) := by decide +kernel
theorem dX1_choose_19 : decode cX1_choose 19 = .ok (.aload_n 0, 1) := by decide +kernel
theorem dX1_choose_20 : decode cX1_choose 20 = .ok (.getfield 12, 3) := by decide +kernel
theorem dX1_choose_23 : decode cX1_choose 23 = .ok (.iload_n 2, 1) := by decide +kernel
theorem dX1_choose_24 : decode cX1_choose 24 = .ok (.invokevirtual 58, 3) := by decide +kernel
theorem dX1_choose_27 : decode cX1_choose 27 = .ok (.bipush (-9), 2) := by decide +kernel
theorem dX1_choose_29 : decode cX1_choose 29 = .ok (.if_icmp .eq 4, 3) := by decide +kernel
theorem dX1_choose_32 : decode cX1_choose 32 = .ok (.return_, 1) := by decide +kernel
theorem dX1_choose_33 : decode cX1_choose 33 = .ok (.iconst 0, 1) := by decide +kernel
theorem dX1_choose_34 : decode cX1_choose 34 = .ok (.istore_n 3, 1) := by decide +kernel
theorem dX1_choose_35 : decode cX1_choose 35 = .ok (.iload_n 3, 1) := by decide +kernel
theorem dX1_choose_36 : decode cX1_choose 36 = .ok (.iconst 4, 1) := by decide +kernel
theorem dX1_choose_37 : decode cX1_choose 37 = .ok (.if_icmp .ge 57, 3) := by decide +kernel
theorem dX1_choose_40 : decode cX1_choose 40 = .ok (.aload_n 0, 1) := by decide +kernel
theorem dX1_choose_41 : decode cX1_choose 41 = .ok (.getfield 12, 3) := by decide +kernel
theorem dX1_choose_44 : decode cX1_choose 44 = .ok (.iload_n 2, 1) := by decide +kernel
theorem dX1_choose_45 : decode cX1_choose 45 = .ok (.iload_n 3, 1) := by decide +kernel
theorem dX1_choose_46 : decode cX1_choose 46 = .ok (.invokevirtual 62, 3) := by decide +kernel
theorem dX1_choose_49 : decode cX1_choose 49 = .ok (.bipush 10, 2) := by decide +kernel
theorem dX1_choose_51 : decode cX1_choose 51 = .ok (.aload_n 1, 1) := by decide +kernel
theorem dX1_choose_52 : decode cX1_choose 52 = .ok (.getfield 66, 3) := by decide +kernel
theorem dX1_choose_55 : decode cX1_choose 55 = .ok (.imul, 1) := by decide +kernel
theorem dX1_choose_56 : decode cX1_choose 56 = .ok (.aload_n 1, 1) := by decide +kernel
theorem dX1_choose_57 : decode cX1_choose 57 = .ok (.aload_n 0, 1) := by decide +kernel
theorem dX1_choose_58 : decode cX1_choose 58 = .ok (.getfield 12, 3) := by decide +kernel
theorem dX1_choose_61 : decode cX1_choose 61 = .ok (.iload_n 2, 1) := by decide +kernel
theorem dX1_choose_62 : decode cX1_choose 62 = .ok (.invokevirtual 47, 3) := by decide +kernel
theorem dX1_choose_65 : decode cX1_choose 65 = .ok (.iadd, 1) := by decide +kernel
theorem dX1_choose_66 : decode cX1_choose 66 = .ok (.istore 4, 2) := by decide +kernel
theorem dX1_choose_68 : decode cX1_choose 68 = .ok (.iload 4, 2) := by decide +kernel
theorem dX1_choose_70 : decode cX1_choose 70 = .ok (.aload_n 0, 1) := by decide +kernel
theorem dX1_choose_71 : decode cX1_choose 71 = .ok (.getfield 22, 3) := by decide +kernel
theorem dX1_choose_74 : decode cX1_choose 74 = .ok (.if_icmp .ge 14, 3) := by decide +kernel
theorem dX1_choose_77 : decode cX1_choose 77 = .ok (.aload_n 0, 1) := by decide +kernel
theorem dX1_choose_78 : decode cX1_choose 78 = .ok (.iload_n 3, 1) := by decide +kernel
theorem dX1_choose_79 : decode cX1_choose 79 = .ok (.putfield 18, 3) := by decide +kernel
theorem dX1_choose_82 : decode cX1_choose 82 = .ok (.aload_n 0, 1) := by decide +kernel
theorem dX1_choose_83 : decode cX1_choose 83 = .ok (.iload 4, 2) := by decide +kernel
theorem dX1_choose_85 : decode cX1_choose 85 = .ok (.putfield 22, 3) := by decide +kernel
theorem dX1_choose_88 : decode cX1_choose 88 = .ok (.iinc 3 1, 3) := by decide +kernel
theorem dX1_choose_91 : decode cX1_choose 91 = .ok (.goto (-56), 3) := by decide +kernel
theorem dX1_choose_94 : decode cX1_choose 94 = .ok (.return_, 1) := by decide +kernel
theorem zd_X1_choose : yX1_choose.cls ≠ "java/lang/invoke/MethodHandle" ∧ yX1_choose.cls ≠ "java/lang/invoke/VarHandle" ∧ (parseMethodDescriptor yX1_choose.desc).map (fun d => d.parameters.length) = some 2 := by decide +kernel
set_option maxHeartbeats 4000000 in
set_option maxRecDepth 100000 in
theorem zc_X1_choose (l : Launch) (D : va_G) (cI cZ : ClassId) (v : Nat) (ch : Int32) (tf : Int32) (a1 : Nat) (b1 : Nat) (g : Nat → Int32) (r : Nat) (ro : Nat) (rn : Nat) (rr : Nat) (rt : Int32) (fr : Int32) (pr : Int32) (n : Nat) (m : Nat) (od : Nat → Int32) (p : Nat) (hp : p < 5) : zV l yX1_choose cX1_choose 5 4 85 D cI cZ [.ref v, .ref r, .int (nI p)] [(v, .inr (1, [.ref a1, .int ch, .int tf])), (a1, .inr (6, [.ref b1])), (b1, .inl (cI, 36, .inl g)), (r, .inr (3, [.ref ro, .ref rn, .ref rr, .int rt, .int fr, .int pr, .int (nI n), .int (nI m)])), (ro, .inl (cI, 4, .inl od))] (fun (u : Unit) => True) (fun (u : Unit) => [(v, .inr (1, [.ref a1, .int ((zchF g od rt fr pr p).1), .int ((zchF g od rt fr pr p).2)])), (a1, .inr (6, [.ref b1])), (b1, .inl (cI, 36, .inl (if g (25 + p) = -9 then zchg g p 4 else g))), (r, .inr (3, [.ref ro, .ref rn, .ref rr, .int rt, .int fr, .int pr, .int (nI n), .int (nI m)])), (ro, .inl (cI, 4, .inl od))]) := by
  refine zV_of (by decide) (Nat.le_of_ble_eq_true rfl) ?_
  intro pP eE sS mM aA bB mT cC A ls Z hP hD hS hl
  have hx := Z.1
  have hb := Z.2.1
  have hown := Z.2.2.2.2.2.1
  have hts := Z.2.2.2.2.1
  have Z : zAt pP sS mM aA mT cC D cI cZ A "SurpriseTax$Advice" cX1_choose 5 none := Z
  have hl : lv_has ls 5 [(0, .ref v), (1, .ref r), (2, .int (nI p))] := hl
  obtain ⟨H, hH⟩ : ∃ H, H = sS.heap := ⟨_, rfl⟩
  have hP : va_P D vwCl [(v, .inr (1, [.ref a1, .int ch, .int tf])), (a1, .inr (6, [.ref b1])), (b1, .inl (cI, 36, .inl g)), (r, .inr (3, [.ref ro, .ref rn, .ref rr, .int rt, .int fr, .int pr, .int (nI n), .int (nI m)])), (ro, .inl (cI, 4, .inl od))] H := by rw [hH]; exact hP
  have hS : va_S A sS.heap H [] := by rw [hH]; exact hS
  rw [← hH]
  clear hH
  obtain ⟨locs, hlo⟩ : ∃ q : List Loc, q = [] := ⟨_, rfl⟩
  rw [← hlo] at hS ⊢
  clear hlo
  refine lv_aload_n hx hb dX1_choose_0 rfl (lv_at hl 0 rfl) ?_
  refine lv_bipush (v := -9) hx hb dX1_choose_1 (by decide) ?_
  refine z_put (ci := 1) (v := .int (-9)) Z zin1 tyX1 tyX1_ok nmX1 hP hD hS 0 rfl rfl 1 (by decide) zm158 rfl rfl rfl rfl (Nat.le_of_ble_eq_true rfl) dX1_choose_3 (fun H locs hP hD hS => ?_)
  have hP : va_P D vwCl [(v, .inr (1, [.ref a1, .int (-9), .int tf])), (a1, .inr (6, [.ref b1])), (b1, .inl (cI, 36, .inl g)), (r, .inr (3, [.ref ro, .ref rn, .ref rr, .int rt, .int fr, .int pr, .int (nI n), .int (nI m)])), (ro, .inl (cI, 4, .inl od))] H := hP
  have hD : va_D A [(v, .inr (1, [.ref a1, .int (-9), .int tf])), (a1, .inr (6, [.ref b1])), (b1, .inl (cI, 36, .inl g)), (r, .inr (3, [.ref ro, .ref rn, .ref rr, .int rt, .int fr, .int pr, .int (nI n), .int (nI m)])), (ro, .inl (cI, 4, .inl od))] := hD
  refine lv_aload_n hx hb dX1_choose_6 rfl (lv_at hl 0 rfl) ?_
  refine lv_aload_n hx hb dX1_choose_7 rfl (lv_at hl 1 rfl) ?_
  refine lv_aload_n hx hb dX1_choose_8 rfl (lv_at hl 0 rfl) ?_
  refine z_get (ci := 1) (v := .ref a1) Z zin1 hP 0 rfl rfl 0 (by decide) zm157 rfl rfl dX1_choose_9 ?_
  refine lv_iload_n hx hb dX1_choose_12 rfl (lv_at hl 2 rfl) ?_
  refine z_callVi (As := [.ref a1, .int (nI p)]) (rest := [.ref v]) (ci := 3) (k0 := 0) Z hP hD hS hl.1 (zc_X3_meanTenfold l D cI cZ r ro rn rr rt fr pr n m od a1 b1 g p (by omega)) zm457 zm433 zm434 zm32 zm435 ⟨rfl, zd_X3_meanTenfold⟩ ⟨Nat.le_of_ble_eq_true rfl, Nat.le_of_ble_eq_true rfl⟩ ⟨Nat.zero_le _, Nat.zero_le _⟩ [3, 4, 1, 2] rfl (by decide) rfl rfl rfl (fun _ => rfl) rfl (Nat.le_of_ble_eq_true rfl) rfl dX1_choose_13 (fun r_1 u H locs h_2 hP hD hS => ?_)
  have hP : va_P D vwCl [(v, .inr (1, [.ref a1, .int (-9), .int tf])), (a1, .inr (6, [.ref b1])), (b1, .inl (cI, 36, .inl g)), (r, .inr (3, [.ref ro, .ref rn, .ref rr, .int rt, .int fr, .int pr, .int (nI n), .int (nI m)])), (ro, .inl (cI, 4, .inl od))] H := hP
  have hD : va_D A [(v, .inr (1, [.ref a1, .int (-9), .int tf])), (a1, .inr (6, [.ref b1])), (b1, .inl (cI, 36, .inl g)), (r, .inr (3, [.ref ro, .ref rn, .ref rr, .int rt, .int fr, .int pr, .int (nI n), .int (nI m)])), (ro, .inl (cI, 4, .inl od))] := hD
  have h_2 : r_1 = zmt g od rt fr p 4 := h_2
  subst h_2
  refine z_put (ci := 1) (v := .int (zmt g od rt fr p 4)) Z zin1 tyX1 tyX1_ok nmX1 hP hD hS 0 rfl rfl 2 (by decide) zm159 rfl rfl rfl rfl (Nat.le_of_ble_eq_true rfl) dX1_choose_16 (fun H locs hP hD hS => ?_)
  have hP : va_P D vwCl [(v, .inr (1, [.ref a1, .int (-9), .int (zmt g od rt fr p 4)])), (a1, .inr (6, [.ref b1])), (b1, .inl (cI, 36, .inl g)), (r, .inr (3, [.ref ro, .ref rn, .ref rr, .int rt, .int fr, .int pr, .int (nI n), .int (nI m)])), (ro, .inl (cI, 4, .inl od))] H := hP
  have hD : va_D A [(v, .inr (1, [.ref a1, .int (-9), .int (zmt g od rt fr p 4)])), (a1, .inr (6, [.ref b1])), (b1, .inl (cI, 36, .inl g)), (r, .inr (3, [.ref ro, .ref rn, .ref rr, .int rt, .int fr, .int pr, .int (nI n), .int (nI m)])), (ro, .inl (cI, 4, .inl od))] := hD
  refine lv_aload_n hx hb dX1_choose_19 rfl (lv_at hl 0 rfl) ?_
  refine z_get (ci := 1) (v := .ref a1) Z zin1 hP 0 rfl rfl 0 (by decide) zm157 rfl rfl dX1_choose_20 ?_
  refine lv_iload_n hx hb dX1_choose_23 rfl (lv_at hl 2 rfl) ?_
  refine z_callVi (As := [.int (nI p)]) (rest := []) (ci := 6) (k0 := 0) Z hP hD hS hl.1 (zc_X6_declared l D cI cZ a1 b1 g p (by omega)) zm458 zm340 zm341 zm33 zm342 ⟨rfl, zd_X6_declared⟩ ⟨Nat.le_of_ble_eq_true rfl, Nat.le_of_ble_eq_true rfl⟩ ⟨Nat.zero_le _, Nat.zero_le _⟩ [1, 2] rfl (by decide) rfl rfl rfl (fun _ => rfl) rfl (Nat.le_of_ble_eq_true rfl) rfl dX1_choose_24 (fun r_3 u H locs h_4 hP hD hS => ?_)
  have hP : va_P D vwCl [(v, .inr (1, [.ref a1, .int (-9), .int (zmt g od rt fr p 4)])), (a1, .inr (6, [.ref b1])), (b1, .inl (cI, 36, .inl g)), (r, .inr (3, [.ref ro, .ref rn, .ref rr, .int rt, .int fr, .int pr, .int (nI n), .int (nI m)])), (ro, .inl (cI, 4, .inl od))] H := hP
  have hD : va_D A [(v, .inr (1, [.ref a1, .int (-9), .int (zmt g od rt fr p 4)])), (a1, .inr (6, [.ref b1])), (b1, .inl (cI, 36, .inl g)), (r, .inr (3, [.ref ro, .ref rn, .ref rr, .int rt, .int fr, .int pr, .int (nI n), .int (nI m)])), (ro, .inl (cI, 4, .inl od))] := hD
  have h_4 : r_3 = g (25 + p) := h_4
  subst h_4
  refine lv_bipush (v := -9) hx hb dX1_choose_27 (by decide) ?_
  refine lv_icmp_eq (tgt := 33) hx hb dX1_choose_29 (by decide) (fun c_5 => ?_) (fun c_5 => ?_)
  · have c_5 : (g (25 + p)) = (-9) := c_5
    refine lv_iconst (v := nI 0) hx hb dX1_choose_33 (by decide) ?_
    refine lv_istore_n (lv' := [(3, .int (nI 0)), (0, .ref v), (1, .ref r), (2, .int (nI p))]) hx hb dX1_choose_34 rfl hl (by decide) rfl (fun ls hl => ?_)
    have e_7 : -9 = (zch g od rt fr pr p 0).1 := by rfl
    have hP : va_P D vwCl [(v, .inr (1, [.ref a1, .int ((zch g od rt fr pr p 0).1), .int (zmt g od rt fr p 4)])), (a1, .inr (6, [.ref b1])), (b1, .inl (cI, 36, .inl g)), (r, .inr (3, [.ref ro, .ref rn, .ref rr, .int rt, .int fr, .int pr, .int (nI n), .int (nI m)])), (ro, .inl (cI, 4, .inl od))] H := Eq.subst (motive := fun zz_ => va_P D vwCl [(v, .inr (1, [.ref a1, .int zz_, .int (zmt g od rt fr p 4)])), (a1, .inr (6, [.ref b1])), (b1, .inl (cI, 36, .inl g)), (r, .inr (3, [.ref ro, .ref rn, .ref rr, .int rt, .int fr, .int pr, .int (nI n), .int (nI m)])), (ro, .inl (cI, 4, .inl od))] H) e_7 hP
    have e_8 : zmt g od rt fr p 4 = (zch g od rt fr pr p 0).2 := by rfl
    have hP : va_P D vwCl [(v, .inr (1, [.ref a1, .int ((zch g od rt fr pr p 0).1), .int ((zch g od rt fr pr p 0).2)])), (a1, .inr (6, [.ref b1])), (b1, .inl (cI, 36, .inl g)), (r, .inr (3, [.ref ro, .ref rn, .ref rr, .int rt, .int fr, .int pr, .int (nI n), .int (nI m)])), (ro, .inl (cI, 4, .inl od))] H := Eq.subst (motive := fun zz_ => va_P D vwCl [(v, .inr (1, [.ref a1, .int ((zch g od rt fr pr p 0).1), .int zz_])), (a1, .inr (6, [.ref b1])), (b1, .inl (cI, 36, .inl g)), (r, .inr (3, [.ref ro, .ref rn, .ref rr, .int rt, .int fr, .int pr, .int (nI n), .int (nI m)])), (ro, .inl (cI, 4, .inl od))] H) e_8 hP
    have e_9 : g = zchg g p 0 := by rfl
    have hP : va_P D vwCl [(v, .inr (1, [.ref a1, .int ((zch g od rt fr pr p 0).1), .int ((zch g od rt fr pr p 0).2)])), (a1, .inr (6, [.ref b1])), (b1, .inl (cI, 36, .inl (zchg g p 0))), (r, .inr (3, [.ref ro, .ref rn, .ref rr, .int rt, .int fr, .int pr, .int (nI n), .int (nI m)])), (ro, .inl (cI, 4, .inl od))] H := Eq.subst (motive := fun zz_ => va_P D vwCl [(v, .inr (1, [.ref a1, .int ((zch g od rt fr pr p 0).1), .int ((zch g od rt fr pr p 0).2)])), (a1, .inr (6, [.ref b1])), (b1, .inl (cI, 36, .inl zz_)), (r, .inr (3, [.ref ro, .ref rn, .ref rr, .int rt, .int fr, .int pr, .int (nI n), .int (nI m)])), (ro, .inl (cI, 4, .inl od))] H) e_9 hP
    have hD : va_D A [(v, .inr (1, [.ref a1, .int ((zch g od rt fr pr p 0).1), .int ((zch g od rt fr pr p 0).2)])), (a1, .inr (6, [.ref b1])), (b1, .inl (cI, 36, .inl (zchg g p 0))), (r, .inr (3, [.ref ro, .ref rn, .ref rr, .int rt, .int fr, .int pr, .int (nI n), .int (nI m)])), (ro, .inl (cI, 4, .inl od))] := zD_of hD rfl
    have hl : lv_has ls 5 [(3, .int (nI 0)), (0, .ref v), (1, .ref r), (2, .int (nI p))] := lv_sub hl [0, 1, 2, 3] rfl
    refine z_loop (fun k H locs ls => va_P D vwCl [(v, .inr (1, [.ref a1, .int ((zch g od rt fr pr p k).1), .int ((zch g od rt fr pr p k).2)])), (a1, .inr (6, [.ref b1])), (b1, .inl (cI, 36, .inl (zchg g p k))), (r, .inr (3, [.ref ro, .ref rn, .ref rr, .int rt, .int fr, .int pr, .int (nI n), .int (nI m)])), (ro, .inl (cI, 4, .inl od))] H ∧ va_D A [(v, .inr (1, [.ref a1, .int ((zch g od rt fr pr p k).1), .int ((zch g od rt fr pr p k).2)])), (a1, .inr (6, [.ref b1])), (b1, .inl (cI, 36, .inl (zchg g p k))), (r, .inr (3, [.ref ro, .ref rn, .ref rr, .int rt, .int fr, .int pr, .int (nI n), .int (nI m)])), (ro, .inl (cI, 4, .inl od))] ∧ va_S A sS.heap H locs ∧ lv_has ls 5 [(3, .int (nI k)), (0, .ref v), (1, .ref r), (2, .int (nI p))]) (4) (lo := 0) (by omega) ⟨hP, hD, hS, hl⟩ (fun k hi_k ih_6 H locs ls hI => ?_)
    obtain ⟨hP, hD, hS, hl⟩ := hI
    have hP : va_P D vwCl [(v, .inr (1, [.ref a1, .int ((zch g od rt fr pr p k).1), .int ((zch g od rt fr pr p k).2)])), (a1, .inr (6, [.ref b1])), (b1, .inl (cI, 36, .inl (zchg g p k))), (r, .inr (3, [.ref ro, .ref rn, .ref rr, .int rt, .int fr, .int pr, .int (nI n), .int (nI m)])), (ro, .inl (cI, 4, .inl od))] H := hP
    have hD : va_D A [(v, .inr (1, [.ref a1, .int ((zch g od rt fr pr p k).1), .int ((zch g od rt fr pr p k).2)])), (a1, .inr (6, [.ref b1])), (b1, .inl (cI, 36, .inl (zchg g p k))), (r, .inr (3, [.ref ro, .ref rn, .ref rr, .int rt, .int fr, .int pr, .int (nI n), .int (nI m)])), (ro, .inl (cI, 4, .inl od))] := hD
    have hl : lv_has ls 5 [(3, .int (nI k)), (0, .ref v), (1, .ref r), (2, .int (nI p))] := hl
    refine lv_iload_n hx hb dX1_choose_35 rfl (lv_at hl 0 rfl) ?_
    refine lv_iconst (v := nI 4) hx hb dX1_choose_36 (by decide) ?_
    refine lv_icmp_ge (tgt := 94) hx hb dX1_choose_37 (by decide) (fun c_10 => ?_) (fun c_10 => ?_)
    · have c_10 := zle (i := 4) (j := k) (by decide) (by omega) c_10
      have hE_ : 4 = k := by omega
      subst hE_
      have e_11 : (zch g od rt fr pr p 4).1 = (zchF g od rt fr pr p).1 := by first | (unfold zchF; rw [if_pos (by assumption)]) | (unfold zchF; rw [if_neg (by assumption)]; rfl) | rw [if_pos (by assumption)] | rw [if_neg (by assumption)] | rfl
      have hP : va_P D vwCl [(v, .inr (1, [.ref a1, .int ((zchF g od rt fr pr p).1), .int ((zch g od rt fr pr p 4).2)])), (a1, .inr (6, [.ref b1])), (b1, .inl (cI, 36, .inl (zchg g p 4))), (r, .inr (3, [.ref ro, .ref rn, .ref rr, .int rt, .int fr, .int pr, .int (nI n), .int (nI m)])), (ro, .inl (cI, 4, .inl od))] H := Eq.subst (motive := fun zz_ => va_P D vwCl [(v, .inr (1, [.ref a1, .int zz_, .int ((zch g od rt fr pr p 4).2)])), (a1, .inr (6, [.ref b1])), (b1, .inl (cI, 36, .inl (zchg g p 4))), (r, .inr (3, [.ref ro, .ref rn, .ref rr, .int rt, .int fr, .int pr, .int (nI n), .int (nI m)])), (ro, .inl (cI, 4, .inl od))] H) e_11 hP
      have e_12 : (zch g od rt fr pr p 4).2 = (zchF g od rt fr pr p).2 := by first | (unfold zchF; rw [if_pos (by assumption)]) | (unfold zchF; rw [if_neg (by assumption)]; rfl) | rw [if_pos (by assumption)] | rw [if_neg (by assumption)] | rfl
      have hP : va_P D vwCl [(v, .inr (1, [.ref a1, .int ((zchF g od rt fr pr p).1), .int ((zchF g od rt fr pr p).2)])), (a1, .inr (6, [.ref b1])), (b1, .inl (cI, 36, .inl (zchg g p 4))), (r, .inr (3, [.ref ro, .ref rn, .ref rr, .int rt, .int fr, .int pr, .int (nI n), .int (nI m)])), (ro, .inl (cI, 4, .inl od))] H := Eq.subst (motive := fun zz_ => va_P D vwCl [(v, .inr (1, [.ref a1, .int ((zchF g od rt fr pr p).1), .int zz_])), (a1, .inr (6, [.ref b1])), (b1, .inl (cI, 36, .inl (zchg g p 4))), (r, .inr (3, [.ref ro, .ref rn, .ref rr, .int rt, .int fr, .int pr, .int (nI n), .int (nI m)])), (ro, .inl (cI, 4, .inl od))] H) e_12 hP
      have e_13 : zchg g p 4 = (if g (25 + p) = -9 then zchg g p 4 else g) := by first | (unfold zchF; rw [if_pos (by assumption)]) | (unfold zchF; rw [if_neg (by assumption)]; rfl) | rw [if_pos (by assumption)] | rw [if_neg (by assumption)] | rfl
      have hP : va_P D vwCl [(v, .inr (1, [.ref a1, .int ((zchF g od rt fr pr p).1), .int ((zchF g od rt fr pr p).2)])), (a1, .inr (6, [.ref b1])), (b1, .inl (cI, 36, .inl (if g (25 + p) = -9 then zchg g p 4 else g))), (r, .inr (3, [.ref ro, .ref rn, .ref rr, .int rt, .int fr, .int pr, .int (nI n), .int (nI m)])), (ro, .inl (cI, 4, .inl od))] H := Eq.subst (motive := fun zz_ => va_P D vwCl [(v, .inr (1, [.ref a1, .int ((zchF g od rt fr pr p).1), .int ((zchF g od rt fr pr p).2)])), (a1, .inr (6, [.ref b1])), (b1, .inl (cI, 36, .inl zz_)), (r, .inr (3, [.ref ro, .ref rn, .ref rr, .int rt, .int fr, .int pr, .int (nI n), .int (nI m)])), (ro, .inl (cI, 4, .inl od))] H) e_13 hP
      have hD : va_D A [(v, .inr (1, [.ref a1, .int ((zchF g od rt fr pr p).1), .int ((zchF g od rt fr pr p).2)])), (a1, .inr (6, [.ref b1])), (b1, .inl (cI, 36, .inl (if g (25 + p) = -9 then zchg g p 4 else g))), (r, .inr (3, [.ref ro, .ref rn, .ref rr, .int rt, .int fr, .int pr, .int (nI n), .int (nI m)])), (ro, .inl (cI, 4, .inl od))] := zD_of hD rfl
      exact z_vret Z () trivial hP hS dX1_choose_94
    · have c_10 := znle (i := 4) (j := k) (by decide) (by omega) c_10
      refine lv_aload_n hx hb dX1_choose_40 rfl (lv_at hl 1 rfl) ?_
      refine z_get (ci := 1) (v := .ref a1) Z zin1 hP 0 rfl rfl 0 (by decide) zm157 rfl rfl dX1_choose_41 ?_
      refine lv_iload_n hx hb dX1_choose_44 rfl (lv_at hl 3 rfl) ?_
      refine lv_iload_n hx hb dX1_choose_45 rfl (lv_at hl 0 rfl) ?_
      refine z_callVv (As := [.int (nI p), .int (nI k)]) (rest := []) (ci := 6) (k0 := 0) Z hP hD hS hl.1 (zc_X6_setDeclared l D cI cZ a1 b1 (zchg g p k) p (nI k) (by omega)) zm459 zm103 zm104 zm33 zm105 ⟨rfl, zd_X6_setDeclared⟩ ⟨Nat.le_of_ble_eq_true rfl, Nat.le_of_ble_eq_true rfl⟩ ⟨Nat.zero_le _, Nat.zero_le _⟩ [1, 2] rfl (by decide) rfl rfl rfl (fun _ => rfl) rfl (Nat.le_of_ble_eq_true rfl) rfl dX1_choose_46 (fun u H locs h_15 hP hD hS => ?_)
      have hP : va_P D vwCl [(v, .inr (1, [.ref a1, .int ((zch g od rt fr pr p k).1), .int ((zch g od rt fr pr p k).2)])), (a1, .inr (6, [.ref b1])), (b1, .inl (cI, 36, .inl (upd (zchg g p k) (25 + p) (nI k)))), (r, .inr (3, [.ref ro, .ref rn, .ref rr, .int rt, .int fr, .int pr, .int (nI n), .int (nI m)])), (ro, .inl (cI, 4, .inl od))] H := hP
      have hD : va_D A [(v, .inr (1, [.ref a1, .int ((zch g od rt fr pr p k).1), .int ((zch g od rt fr pr p k).2)])), (a1, .inr (6, [.ref b1])), (b1, .inl (cI, 36, .inl (upd (zchg g p k) (25 + p) (nI k)))), (r, .inr (3, [.ref ro, .ref rn, .ref rr, .int rt, .int fr, .int pr, .int (nI n), .int (nI m)])), (ro, .inl (cI, 4, .inl od))] := hD
      have e_16 : upd (zchg g p k) (25 + p) (nI k) = zchg g p (k + 1) := by exact zchg_s g p k
      have hP : va_P D vwCl [(v, .inr (1, [.ref a1, .int ((zch g od rt fr pr p k).1), .int ((zch g od rt fr pr p k).2)])), (a1, .inr (6, [.ref b1])), (b1, .inl (cI, 36, .inl (zchg g p (k + 1)))), (r, .inr (3, [.ref ro, .ref rn, .ref rr, .int rt, .int fr, .int pr, .int (nI n), .int (nI m)])), (ro, .inl (cI, 4, .inl od))] H := Eq.subst (motive := fun zz_ => va_P D vwCl [(v, .inr (1, [.ref a1, .int ((zch g od rt fr pr p k).1), .int ((zch g od rt fr pr p k).2)])), (a1, .inr (6, [.ref b1])), (b1, .inl (cI, 36, .inl zz_)), (r, .inr (3, [.ref ro, .ref rn, .ref rr, .int rt, .int fr, .int pr, .int (nI n), .int (nI m)])), (ro, .inl (cI, 4, .inl od))] H) e_16 hP
      have hD : va_D A [(v, .inr (1, [.ref a1, .int ((zch g od rt fr pr p k).1), .int ((zch g od rt fr pr p k).2)])), (a1, .inr (6, [.ref b1])), (b1, .inl (cI, 36, .inl (zchg g p (k + 1)))), (r, .inr (3, [.ref ro, .ref rn, .ref rr, .int rt, .int fr, .int pr, .int (nI n), .int (nI m)])), (ro, .inl (cI, 4, .inl od))] := zD_of hD rfl
      refine lv_bipush (v := nI 10) hx hb dX1_choose_49 (by decide) ?_
      refine lv_aload_n hx hb dX1_choose_51 rfl (lv_at hl 2 rfl) ?_
      refine z_getN (ci := 3) (v := .int pr) Z zin3 hP 3 rfl rfl 5 (by decide) zn16 rfl rfl dX1_choose_52 ?_
      refine lv_imul hx hb dX1_choose_55 ?_
      refine z_top (y := 10 * pr) rfl ?_
      refine lv_aload_n hx hb dX1_choose_56 rfl (lv_at hl 2 rfl) ?_
      refine lv_aload_n hx hb dX1_choose_57 rfl (lv_at hl 1 rfl) ?_
      refine z_get (ci := 1) (v := .ref a1) Z zin1 hP 0 rfl rfl 0 (by decide) zm157 rfl rfl dX1_choose_58 ?_
      refine lv_iload_n hx hb dX1_choose_61 rfl (lv_at hl 3 rfl) ?_
      refine z_callVi (As := [.ref a1, .int (nI p)]) (rest := [.int (10 * pr)]) (ci := 3) (k0 := 0) Z hP hD hS hl.1 (zc_X3_meanTenfold l D cI cZ r ro rn rr rt fr pr n m od a1 b1 (zchg g p (k + 1)) p (by omega)) zm457 zm433 zm434 zm32 zm435 ⟨rfl, zd_X3_meanTenfold⟩ ⟨Nat.le_of_ble_eq_true rfl, Nat.le_of_ble_eq_true rfl⟩ ⟨Nat.zero_le _, Nat.zero_le _⟩ [3, 4, 1, 2] rfl (by decide) rfl rfl rfl (fun _ => rfl) rfl (Nat.le_of_ble_eq_true rfl) rfl dX1_choose_62 (fun r_17 u H locs h_18 hP hD hS => ?_)
      have hP : va_P D vwCl [(v, .inr (1, [.ref a1, .int ((zch g od rt fr pr p k).1), .int ((zch g od rt fr pr p k).2)])), (a1, .inr (6, [.ref b1])), (b1, .inl (cI, 36, .inl (zchg g p (k + 1)))), (r, .inr (3, [.ref ro, .ref rn, .ref rr, .int rt, .int fr, .int pr, .int (nI n), .int (nI m)])), (ro, .inl (cI, 4, .inl od))] H := hP
      have hD : va_D A [(v, .inr (1, [.ref a1, .int ((zch g od rt fr pr p k).1), .int ((zch g od rt fr pr p k).2)])), (a1, .inr (6, [.ref b1])), (b1, .inl (cI, 36, .inl (zchg g p (k + 1)))), (r, .inr (3, [.ref ro, .ref rn, .ref rr, .int rt, .int fr, .int pr, .int (nI n), .int (nI m)])), (ro, .inl (cI, 4, .inl od))] := hD
      have h_18 : r_17 = zmt (zchg g p (k + 1)) od rt fr p 4 := h_18
      subst h_18
      refine lv_iadd hx hb dX1_choose_65 ?_
      refine z_top (y := (10 * pr) + (zmt (zchg g p (k + 1)) od rt fr p 4)) rfl ?_
      refine lv_istore (lv' := [(4, .int ((10 * pr) + (zmt (zchg g p (k + 1)) od rt fr p 4))), (3, .int (nI k)), (0, .ref v), (1, .ref r), (2, .int (nI p))]) hx hb dX1_choose_66 hl (by decide) rfl (fun ls hl => ?_)
      refine lv_iload hx hb dX1_choose_68 (lv_at hl 0 rfl) ?_
      refine lv_aload_n hx hb dX1_choose_70 rfl (lv_at hl 2 rfl) ?_
      refine z_get (ci := 1) (v := .int ((zch g od rt fr pr p k).2)) Z zin1 hP 0 rfl rfl 2 (by decide) zm159 rfl rfl dX1_choose_71 ?_
      refine lv_icmp_ge (tgt := 88) hx hb dX1_choose_74 (by decide) (fun c_19 => ?_) (fun c_19 => ?_)
      · have c_19 : ((zch g od rt fr pr p k).2) ≤ ((10 * pr) + (zmt (zchg g p (k + 1)) od rt fr p 4)) := c_19
        refine lv_iinc (v := nI (k + 1)) (lv' := [(3, .int (nI (k + 1))), (4, .int ((10 * pr) + (zmt (zchg g p (k + 1)) od rt fr p 4))), (0, .ref v), (1, .ref r), (2, .int (nI p))]) hx hb dX1_choose_88 hl (k := 1) rfl (z_inc _ 1) (by decide) rfl (fun ls hl => ?_)
        refine lv_goto (tgt := 35) hx hb dX1_choose_91 (by decide) ?_
        have e_20 : (zch g od rt fr pr p k).1 = (zch g od rt fr pr p (k + 1)).1 := by first | rw [zch_s, if_pos (by assumption)] | rw [zch_s, if_neg (by assumption)] | rfl
        have hP : va_P D vwCl [(v, .inr (1, [.ref a1, .int ((zch g od rt fr pr p (k + 1)).1), .int ((zch g od rt fr pr p k).2)])), (a1, .inr (6, [.ref b1])), (b1, .inl (cI, 36, .inl (zchg g p (k + 1)))), (r, .inr (3, [.ref ro, .ref rn, .ref rr, .int rt, .int fr, .int pr, .int (nI n), .int (nI m)])), (ro, .inl (cI, 4, .inl od))] H := Eq.subst (motive := fun zz_ => va_P D vwCl [(v, .inr (1, [.ref a1, .int zz_, .int ((zch g od rt fr pr p k).2)])), (a1, .inr (6, [.ref b1])), (b1, .inl (cI, 36, .inl (zchg g p (k + 1)))), (r, .inr (3, [.ref ro, .ref rn, .ref rr, .int rt, .int fr, .int pr, .int (nI n), .int (nI m)])), (ro, .inl (cI, 4, .inl od))] H) e_20 hP
        have e_21 : (zch g od rt fr pr p k).2 = (zch g od rt fr pr p (k + 1)).2 := by first | rw [zch_s, if_pos (by assumption)] | rw [zch_s, if_neg (by assumption)] | rfl
        have hP : va_P D vwCl [(v, .inr (1, [.ref a1, .int ((zch g od rt fr pr p (k + 1)).1), .int ((zch g od rt fr pr p (k + 1)).2)])), (a1, .inr (6, [.ref b1])), (b1, .inl (cI, 36, .inl (zchg g p (k + 1)))), (r, .inr (3, [.ref ro, .ref rn, .ref rr, .int rt, .int fr, .int pr, .int (nI n), .int (nI m)])), (ro, .inl (cI, 4, .inl od))] H := Eq.subst (motive := fun zz_ => va_P D vwCl [(v, .inr (1, [.ref a1, .int ((zch g od rt fr pr p (k + 1)).1), .int zz_])), (a1, .inr (6, [.ref b1])), (b1, .inl (cI, 36, .inl (zchg g p (k + 1)))), (r, .inr (3, [.ref ro, .ref rn, .ref rr, .int rt, .int fr, .int pr, .int (nI n), .int (nI m)])), (ro, .inl (cI, 4, .inl od))] H) e_21 hP
        have hD : va_D A [(v, .inr (1, [.ref a1, .int ((zch g od rt fr pr p (k + 1)).1), .int ((zch g od rt fr pr p (k + 1)).2)])), (a1, .inr (6, [.ref b1])), (b1, .inl (cI, 36, .inl (zchg g p (k + 1)))), (r, .inr (3, [.ref ro, .ref rn, .ref rr, .int rt, .int fr, .int pr, .int (nI n), .int (nI m)])), (ro, .inl (cI, 4, .inl od))] := zD_of hD rfl
        have hl : lv_has ls 5 [(3, .int (nI (k + 1))), (0, .ref v), (1, .ref r), (2, .int (nI p))] := lv_sub hl [0, 2, 3, 4] rfl
        exact ih_6 _ _ _ (by omega) ⟨hP, hD, hS, hl⟩
      · have c_19 : ¬ (((zch g od rt fr pr p k).2) ≤ ((10 * pr) + (zmt (zchg g p (k + 1)) od rt fr p 4))) := c_19
        refine lv_aload_n hx hb dX1_choose_77 rfl (lv_at hl 2 rfl) ?_
        refine lv_iload_n hx hb dX1_choose_78 rfl (lv_at hl 1 rfl) ?_
        refine z_put (ci := 1) (v := .int (nI k)) Z zin1 tyX1 tyX1_ok nmX1 hP hD hS 0 rfl rfl 1 (by decide) zm158 rfl rfl rfl rfl (Nat.le_of_ble_eq_true rfl) dX1_choose_79 (fun H locs hP hD hS => ?_)
        have hP : va_P D vwCl [(v, .inr (1, [.ref a1, .int (nI k), .int ((zch g od rt fr pr p k).2)])), (a1, .inr (6, [.ref b1])), (b1, .inl (cI, 36, .inl (zchg g p (k + 1)))), (r, .inr (3, [.ref ro, .ref rn, .ref rr, .int rt, .int fr, .int pr, .int (nI n), .int (nI m)])), (ro, .inl (cI, 4, .inl od))] H := hP
        have hD : va_D A [(v, .inr (1, [.ref a1, .int (nI k), .int ((zch g od rt fr pr p k).2)])), (a1, .inr (6, [.ref b1])), (b1, .inl (cI, 36, .inl (zchg g p (k + 1)))), (r, .inr (3, [.ref ro, .ref rn, .ref rr, .int rt, .int fr, .int pr, .int (nI n), .int (nI m)])), (ro, .inl (cI, 4, .inl od))] := hD
        refine lv_aload_n hx hb dX1_choose_82 rfl (lv_at hl 2 rfl) ?_
        refine lv_iload hx hb dX1_choose_83 (lv_at hl 0 rfl) ?_
        refine z_put (ci := 1) (v := .int ((10 * pr) + (zmt (zchg g p (k + 1)) od rt fr p 4))) Z zin1 tyX1 tyX1_ok nmX1 hP hD hS 0 rfl rfl 2 (by decide) zm159 rfl rfl rfl rfl (Nat.le_of_ble_eq_true rfl) dX1_choose_85 (fun H locs hP hD hS => ?_)
        have hP : va_P D vwCl [(v, .inr (1, [.ref a1, .int (nI k), .int ((10 * pr) + (zmt (zchg g p (k + 1)) od rt fr p 4))])), (a1, .inr (6, [.ref b1])), (b1, .inl (cI, 36, .inl (zchg g p (k + 1)))), (r, .inr (3, [.ref ro, .ref rn, .ref rr, .int rt, .int fr, .int pr, .int (nI n), .int (nI m)])), (ro, .inl (cI, 4, .inl od))] H := hP
        have hD : va_D A [(v, .inr (1, [.ref a1, .int (nI k), .int ((10 * pr) + (zmt (zchg g p (k + 1)) od rt fr p 4))])), (a1, .inr (6, [.ref b1])), (b1, .inl (cI, 36, .inl (zchg g p (k + 1)))), (r, .inr (3, [.ref ro, .ref rn, .ref rr, .int rt, .int fr, .int pr, .int (nI n), .int (nI m)])), (ro, .inl (cI, 4, .inl od))] := hD
        refine lv_iinc (v := nI (k + 1)) (lv' := [(3, .int (nI (k + 1))), (4, .int ((10 * pr) + (zmt (zchg g p (k + 1)) od rt fr p 4))), (0, .ref v), (1, .ref r), (2, .int (nI p))]) hx hb dX1_choose_88 hl (k := 1) rfl (z_inc _ 1) (by decide) rfl (fun ls hl => ?_)
        refine lv_goto (tgt := 35) hx hb dX1_choose_91 (by decide) ?_
        have e_22 : nI k = (zch g od rt fr pr p (k + 1)).1 := by first | rw [zch_s, if_pos (by assumption)] | rw [zch_s, if_neg (by assumption)] | rfl
        have hP : va_P D vwCl [(v, .inr (1, [.ref a1, .int ((zch g od rt fr pr p (k + 1)).1), .int ((10 * pr) + (zmt (zchg g p (k + 1)) od rt fr p 4))])), (a1, .inr (6, [.ref b1])), (b1, .inl (cI, 36, .inl (zchg g p (k + 1)))), (r, .inr (3, [.ref ro, .ref rn, .ref rr, .int rt, .int fr, .int pr, .int (nI n), .int (nI m)])), (ro, .inl (cI, 4, .inl od))] H := Eq.subst (motive := fun zz_ => va_P D vwCl [(v, .inr (1, [.ref a1, .int zz_, .int ((10 * pr) + (zmt (zchg g p (k + 1)) od rt fr p 4))])), (a1, .inr (6, [.ref b1])), (b1, .inl (cI, 36, .inl (zchg g p (k + 1)))), (r, .inr (3, [.ref ro, .ref rn, .ref rr, .int rt, .int fr, .int pr, .int (nI n), .int (nI m)])), (ro, .inl (cI, 4, .inl od))] H) e_22 hP
        have e_23 : (10 * pr) + (zmt (zchg g p (k + 1)) od rt fr p 4) = (zch g od rt fr pr p (k + 1)).2 := by first | rw [zch_s, if_pos (by assumption)] | rw [zch_s, if_neg (by assumption)] | rfl
        have hP : va_P D vwCl [(v, .inr (1, [.ref a1, .int ((zch g od rt fr pr p (k + 1)).1), .int ((zch g od rt fr pr p (k + 1)).2)])), (a1, .inr (6, [.ref b1])), (b1, .inl (cI, 36, .inl (zchg g p (k + 1)))), (r, .inr (3, [.ref ro, .ref rn, .ref rr, .int rt, .int fr, .int pr, .int (nI n), .int (nI m)])), (ro, .inl (cI, 4, .inl od))] H := Eq.subst (motive := fun zz_ => va_P D vwCl [(v, .inr (1, [.ref a1, .int ((zch g od rt fr pr p (k + 1)).1), .int zz_])), (a1, .inr (6, [.ref b1])), (b1, .inl (cI, 36, .inl (zchg g p (k + 1)))), (r, .inr (3, [.ref ro, .ref rn, .ref rr, .int rt, .int fr, .int pr, .int (nI n), .int (nI m)])), (ro, .inl (cI, 4, .inl od))] H) e_23 hP
        have hD : va_D A [(v, .inr (1, [.ref a1, .int ((zch g od rt fr pr p (k + 1)).1), .int ((zch g od rt fr pr p (k + 1)).2)])), (a1, .inr (6, [.ref b1])), (b1, .inl (cI, 36, .inl (zchg g p (k + 1)))), (r, .inr (3, [.ref ro, .ref rn, .ref rr, .int rt, .int fr, .int pr, .int (nI n), .int (nI m)])), (ro, .inl (cI, 4, .inl od))] := zD_of hD rfl
        have hl : lv_has ls 5 [(3, .int (nI (k + 1))), (0, .ref v), (1, .ref r), (2, .int (nI p))] := lv_sub hl [0, 2, 3, 4] rfl
        exact ih_6 _ _ _ (by omega) ⟨hP, hD, hS, hl⟩
  · have c_5 : ¬ ((g (25 + p)) = (-9)) := c_5
    have e_24 : -9 = (zchF g od rt fr pr p).1 := by first | (unfold zchF; rw [if_pos (by assumption)]) | (unfold zchF; rw [if_neg (by assumption)]; rfl) | rw [if_pos (by assumption)] | rw [if_neg (by assumption)] | rfl
    have hP : va_P D vwCl [(v, .inr (1, [.ref a1, .int ((zchF g od rt fr pr p).1), .int (zmt g od rt fr p 4)])), (a1, .inr (6, [.ref b1])), (b1, .inl (cI, 36, .inl g)), (r, .inr (3, [.ref ro, .ref rn, .ref rr, .int rt, .int fr, .int pr, .int (nI n), .int (nI m)])), (ro, .inl (cI, 4, .inl od))] H := Eq.subst (motive := fun zz_ => va_P D vwCl [(v, .inr (1, [.ref a1, .int zz_, .int (zmt g od rt fr p 4)])), (a1, .inr (6, [.ref b1])), (b1, .inl (cI, 36, .inl g)), (r, .inr (3, [.ref ro, .ref rn, .ref rr, .int rt, .int fr, .int pr, .int (nI n), .int (nI m)])), (ro, .inl (cI, 4, .inl od))] H) e_24 hP
    have e_25 : zmt g od rt fr p 4 = (zchF g od rt fr pr p).2 := by first | (unfold zchF; rw [if_pos (by assumption)]) | (unfold zchF; rw [if_neg (by assumption)]; rfl) | rw [if_pos (by assumption)] | rw [if_neg (by assumption)] | rfl
    have hP : va_P D vwCl [(v, .inr (1, [.ref a1, .int ((zchF g od rt fr pr p).1), .int ((zchF g od rt fr pr p).2)])), (a1, .inr (6, [.ref b1])), (b1, .inl (cI, 36, .inl g)), (r, .inr (3, [.ref ro, .ref rn, .ref rr, .int rt, .int fr, .int pr, .int (nI n), .int (nI m)])), (ro, .inl (cI, 4, .inl od))] H := Eq.subst (motive := fun zz_ => va_P D vwCl [(v, .inr (1, [.ref a1, .int ((zchF g od rt fr pr p).1), .int zz_])), (a1, .inr (6, [.ref b1])), (b1, .inl (cI, 36, .inl g)), (r, .inr (3, [.ref ro, .ref rn, .ref rr, .int rt, .int fr, .int pr, .int (nI n), .int (nI m)])), (ro, .inl (cI, 4, .inl od))] H) e_25 hP
    have e_26 : g = (if g (25 + p) = -9 then zchg g p 4 else g) := by first | (unfold zchF; rw [if_pos (by assumption)]) | (unfold zchF; rw [if_neg (by assumption)]; rfl) | rw [if_pos (by assumption)] | rw [if_neg (by assumption)] | rfl
    have hP : va_P D vwCl [(v, .inr (1, [.ref a1, .int ((zchF g od rt fr pr p).1), .int ((zchF g od rt fr pr p).2)])), (a1, .inr (6, [.ref b1])), (b1, .inl (cI, 36, .inl (if g (25 + p) = -9 then zchg g p 4 else g))), (r, .inr (3, [.ref ro, .ref rn, .ref rr, .int rt, .int fr, .int pr, .int (nI n), .int (nI m)])), (ro, .inl (cI, 4, .inl od))] H := Eq.subst (motive := fun zz_ => va_P D vwCl [(v, .inr (1, [.ref a1, .int ((zchF g od rt fr pr p).1), .int ((zchF g od rt fr pr p).2)])), (a1, .inr (6, [.ref b1])), (b1, .inl (cI, 36, .inl zz_)), (r, .inr (3, [.ref ro, .ref rn, .ref rr, .int rt, .int fr, .int pr, .int (nI n), .int (nI m)])), (ro, .inl (cI, 4, .inl od))] H) e_26 hP
    have hD : va_D A [(v, .inr (1, [.ref a1, .int ((zchF g od rt fr pr p).1), .int ((zchF g od rt fr pr p).2)])), (a1, .inr (6, [.ref b1])), (b1, .inl (cI, 36, .inl (if g (25 + p) = -9 then zchg g p 4 else g))), (r, .inr (3, [.ref ro, .ref rn, .ref rr, .int rt, .int fr, .int pr, .int (nI n), .int (nI m)])), (ro, .inl (cI, 4, .inl od))] := zD_of hD rfl
    exact z_vret Z () trivial hP hS dX1_choose_32

theorem dX1_bestToDeclare_0 : decode cX1_bestToDeclare 0 = .ok (.aload_n 0, 1) := by decide +kernel
theorem dX1_bestToDeclare_1 : decode cX1_bestToDeclare 1 = .ok (.getfield 12, 3) := by decide +kernel
theorem dX1_bestToDeclare_4 : decode cX1_bestToDeclare 4 = .ok (.aload_n 2, 1) := by decide +kernel
theorem dX1_bestToDeclare_5 : decode cX1_bestToDeclare 5 = .ok (.invokevirtual 25, 3) := by decide +kernel
theorem dX1_bestToDeclare_8 : decode cX1_bestToDeclare 8 = .ok (.aload_n 0, 1) := by decide +kernel
theorem dX1_bestToDeclare_9 : decode cX1_bestToDeclare 9 = .ok (.aload_n 1, 1) := by decide +kernel
theorem dX1_bestToDeclare_10 : decode cX1_bestToDeclare 10 = .ok (.iload_n 3, 1) := by decide +kernel
theorem dX1_bestToDeclare_11 : decode cX1_bestToDeclare 11 = .ok (.invokevirtual 29, 3) := by decide +kernel
theorem dX1_bestToDeclare_14 : decode cX1_bestToDeclare 14 = .ok (.aload_n 0, 1) := by decide +kernel
theorem dX1_bestToDeclare_15 : decode cX1_bestToDeclare 15 = .ok (.getfield 18, 3) := by decide +kernel
theorem dX1_bestToDeclare_18 : decode cX1_bestToDeclare 18 = .ok (.ireturn, 1) := by decide +kernel
theorem zd_X1_bestToDeclare : yX1_bestToDeclare.cls ≠ "java/lang/invoke/MethodHandle" ∧ yX1_bestToDeclare.cls ≠ "java/lang/invoke/VarHandle" ∧ (parseMethodDescriptor yX1_bestToDeclare.desc).map (fun d => d.parameters.length) = some 3 := by decide +kernel
set_option maxHeartbeats 4000000 in
set_option maxRecDepth 100000 in
theorem zc_X1_bestToDeclare (l : Launch) (D : va_G) (cI cZ : ClassId) (v : Nat) (ch : Int32) (tf : Int32) (a1 : Nat) (b1 : Nat) (g : Nat → Int32) (r : Nat) (ro : Nat) (rn : Nat) (rr : Nat) (rt : Int32) (fr : Int32) (pr : Int32) (n : Nat) (m : Nat) (od : Nat → Int32) (a : Nat) (b : Nat) (f : Nat → Int32) (p : Nat) (hp : p < 5) : zI l yX1_bestToDeclare cX1_bestToDeclare 4 .int 5 109 D cI cZ [.ref v, .ref r, .ref a, .int (nI p)] [(v, .inr (1, [.ref a1, .int ch, .int tf])), (a1, .inr (6, [.ref b1])), (b1, .inl (cI, 36, .inl g)), (r, .inr (3, [.ref ro, .ref rn, .ref rr, .int rt, .int fr, .int pr, .int (nI n), .int (nI m)])), (ro, .inl (cI, 4, .inl od)), (a, .inr (6, [.ref b])), (b, .inl (cI, 36, .inl f))] (fun (r : Int32) (u : Int32 × Int32 × (Nat → Int32)) => r = (zchF f od rt fr pr p).1) (fun (u : Int32 × Int32 × (Nat → Int32)) => [(v, .inr (1, [.ref a1, .int u.1, .int u.2.1])), (a1, .inr (6, [.ref b1])), (b1, .inl (cI, 36, .inl u.2.2)), (r, .inr (3, [.ref ro, .ref rn, .ref rr, .int rt, .int fr, .int pr, .int (nI n), .int (nI m)])), (ro, .inl (cI, 4, .inl od)), (a, .inr (6, [.ref b])), (b, .inl (cI, 36, .inl f))]) := by
  refine zI_of (by decide) (Nat.le_of_ble_eq_true rfl) ?_
  intro pP eE sS mM aA bB mT cC A ls Z hP hD hS hl
  have hx := Z.1
  have hb := Z.2.1
  have hown := Z.2.2.2.2.2.1
  have hts := Z.2.2.2.2.1
  have Z : zAt pP sS mM aA mT cC D cI cZ A "SurpriseTax$Advice" cX1_bestToDeclare 4 (some .int) := Z
  have hl : lv_has ls 4 [(0, .ref v), (1, .ref r), (2, .ref a), (3, .int (nI p))] := hl
  obtain ⟨H, hH⟩ : ∃ H, H = sS.heap := ⟨_, rfl⟩
  have hP : va_P D vwCl [(v, .inr (1, [.ref a1, .int ch, .int tf])), (a1, .inr (6, [.ref b1])), (b1, .inl (cI, 36, .inl g)), (r, .inr (3, [.ref ro, .ref rn, .ref rr, .int rt, .int fr, .int pr, .int (nI n), .int (nI m)])), (ro, .inl (cI, 4, .inl od)), (a, .inr (6, [.ref b])), (b, .inl (cI, 36, .inl f))] H := by rw [hH]; exact hP
  have hS : va_S A sS.heap H [] := by rw [hH]; exact hS
  rw [← hH]
  clear hH
  obtain ⟨locs, hlo⟩ : ∃ q : List Loc, q = [] := ⟨_, rfl⟩
  rw [← hlo] at hS ⊢
  clear hlo
  refine lv_aload_n hx hb dX1_bestToDeclare_0 rfl (lv_at hl 0 rfl) ?_
  refine z_get (ci := 1) (v := .ref a1) Z zin1 hP 0 rfl rfl 0 (by decide) zm157 rfl rfl dX1_bestToDeclare_1 ?_
  refine lv_aload_n hx hb dX1_bestToDeclare_4 rfl (lv_at hl 2 rfl) ?_
  refine z_callVv (As := [.ref a]) (rest := []) (ci := 6) (k0 := 0) Z hP hD hS hl.1 (zc_X6_copyFrom l D cI cZ a1 b1 g a b f ) zm450 zm451 zm452 zm33 zm453 ⟨rfl, zd_X6_copyFrom⟩ ⟨Nat.le_of_ble_eq_true rfl, Nat.le_of_ble_eq_true rfl⟩ ⟨Nat.zero_le _, Nat.zero_le _⟩ [1, 2, 5, 6] rfl (by decide) rfl rfl rfl (fun _ => rfl) rfl (Nat.le_of_ble_eq_true rfl) rfl dX1_bestToDeclare_5 (fun u H locs h_2 hP hD hS => ?_)
  have hP : va_P D vwCl [(v, .inr (1, [.ref a1, .int ch, .int tf])), (a1, .inr (6, [.ref b1])), (b1, .inl (cI, 36, .inl f)), (r, .inr (3, [.ref ro, .ref rn, .ref rr, .int rt, .int fr, .int pr, .int (nI n), .int (nI m)])), (ro, .inl (cI, 4, .inl od)), (a, .inr (6, [.ref b])), (b, .inl (cI, 36, .inl f))] H := hP
  have hD : va_D A [(v, .inr (1, [.ref a1, .int ch, .int tf])), (a1, .inr (6, [.ref b1])), (b1, .inl (cI, 36, .inl f)), (r, .inr (3, [.ref ro, .ref rn, .ref rr, .int rt, .int fr, .int pr, .int (nI n), .int (nI m)])), (ro, .inl (cI, 4, .inl od)), (a, .inr (6, [.ref b])), (b, .inl (cI, 36, .inl f))] := hD
  refine lv_aload_n hx hb dX1_bestToDeclare_8 rfl (lv_at hl 0 rfl) ?_
  refine lv_aload_n hx hb dX1_bestToDeclare_9 rfl (lv_at hl 1 rfl) ?_
  refine lv_iload_n hx hb dX1_bestToDeclare_10 rfl (lv_at hl 3 rfl) ?_
  refine z_callVv (As := [.ref r, .int (nI p)]) (rest := []) (ci := 1) (k0 := 0) Z hP hD hS hl.1 (zc_X1_choose l D cI cZ v ch tf a1 b1 f r ro rn rr rt fr pr n m od p (by omega)) zm454 zm455 zm7 zm37 zm456 ⟨rfl, zd_X1_choose⟩ ⟨Nat.le_of_ble_eq_true rfl, Nat.le_of_ble_eq_true rfl⟩ ⟨Nat.zero_le _, Nat.zero_le _⟩ [0, 1, 2, 3, 4] rfl (by decide) rfl rfl rfl (fun _ => rfl) rfl (Nat.le_of_ble_eq_true rfl) rfl dX1_bestToDeclare_11 (fun u H locs h_4 hP hD hS => ?_)
  have hP : va_P D vwCl [(v, .inr (1, [.ref a1, .int ((zchF f od rt fr pr p).1), .int ((zchF f od rt fr pr p).2)])), (a1, .inr (6, [.ref b1])), (b1, .inl (cI, 36, .inl (if f (25 + p) = -9 then zchg f p 4 else f))), (r, .inr (3, [.ref ro, .ref rn, .ref rr, .int rt, .int fr, .int pr, .int (nI n), .int (nI m)])), (ro, .inl (cI, 4, .inl od)), (a, .inr (6, [.ref b])), (b, .inl (cI, 36, .inl f))] H := hP
  have hD : va_D A [(v, .inr (1, [.ref a1, .int ((zchF f od rt fr pr p).1), .int ((zchF f od rt fr pr p).2)])), (a1, .inr (6, [.ref b1])), (b1, .inl (cI, 36, .inl (if f (25 + p) = -9 then zchg f p 4 else f))), (r, .inr (3, [.ref ro, .ref rn, .ref rr, .int rt, .int fr, .int pr, .int (nI n), .int (nI m)])), (ro, .inl (cI, 4, .inl od)), (a, .inr (6, [.ref b])), (b, .inl (cI, 36, .inl f))] := hD
  refine lv_aload_n hx hb dX1_bestToDeclare_14 rfl (lv_at hl 0 rfl) ?_
  refine z_get (ci := 1) (v := .int ((zchF f od rt fr pr p).1)) Z zin1 hP 0 rfl rfl 1 (by decide) zm158 rfl rfl dX1_bestToDeclare_15 ?_
  exact z_iret Z ((zchF f od rt fr pr p).1, (zchF f od rt fr pr p).2, if f (25 + p) = -9 then zchg f p 4 else f) rfl hP hS dX1_bestToDeclare_18

theorem dX1_worthOfNews_0 : decode cX1_worthOfNews 0 = .ok (.aload_n 0, 1) := by decide +kernel
theorem dX1_worthOfNews_1 : decode cX1_worthOfNews 1 = .ok (.getfield 12, 3) := by decide +kernel
theorem dX1_worthOfNews_4 : decode cX1_worthOfNews 4 = .ok (.aload_n 2, 1) := by decide +kernel
theorem dX1_worthOfNews_5 : decode cX1_worthOfNews 5 = .ok (.invokevirtual 25, 3) := by decide +kernel
theorem dX1_worthOfNews_8 : decode cX1_worthOfNews 8 = .ok (.aload_n 0, 1) := by decide +kernel
theorem dX1_worthOfNews_9 : decode cX1_worthOfNews 9 = .ok (.aload_n 1, 1) := by decide +kernel
theorem dX1_worthOfNews_10 : decode cX1_worthOfNews 10 = .ok (.iload_n 3, 1) := by decide +kernel
theorem dX1_worthOfNews_11 : decode cX1_worthOfNews 11 = .ok (.invokevirtual 29, 3) := by decide +kernel
theorem dX1_worthOfNews_14 : decode cX1_worthOfNews 14 = .ok (.aload_n 0, 1) := by decide +kernel
theorem dX1_worthOfNews_15 : decode cX1_worthOfNews 15 = .ok (.getfield 22, 3) := by decide +kernel
theorem dX1_worthOfNews_18 : decode cX1_worthOfNews 18 = .ok (.bipush 10, 2) := by decide +kernel
theorem dX1_worthOfNews_20 : decode cX1_worthOfNews 20 = .ok (.idiv, 1) := by decide +kernel
theorem dX1_worthOfNews_21 : decode cX1_worthOfNews 21 = .ok (.ireturn, 1) := by decide +kernel
theorem zd_X1_worthOfNews : yX1_worthOfNews.cls ≠ "java/lang/invoke/MethodHandle" ∧ yX1_worthOfNews.cls ≠ "java/lang/invoke/VarHandle" ∧ (parseMethodDescriptor yX1_worthOfNews.desc).map (fun d => d.parameters.length) = some 3 := by decide +kernel
set_option maxHeartbeats 4000000 in
set_option maxRecDepth 100000 in
theorem zc_X1_worthOfNews (l : Launch) (D : va_G) (cI cZ : ClassId) (v : Nat) (ch : Int32) (tf : Int32) (a1 : Nat) (b1 : Nat) (g : Nat → Int32) (r : Nat) (ro : Nat) (rn : Nat) (rr : Nat) (rt : Int32) (fr : Int32) (pr : Int32) (n : Nat) (m : Nat) (od : Nat → Int32) (a : Nat) (b : Nat) (f : Nat → Int32) (p : Nat) (hp : p < 5) : zI l yX1_worthOfNews cX1_worthOfNews 4 .int 5 109 D cI cZ [.ref v, .ref r, .ref a, .int (nI p)] [(v, .inr (1, [.ref a1, .int ch, .int tf])), (a1, .inr (6, [.ref b1])), (b1, .inl (cI, 36, .inl g)), (r, .inr (3, [.ref ro, .ref rn, .ref rr, .int rt, .int fr, .int pr, .int (nI n), .int (nI m)])), (ro, .inl (cI, 4, .inl od)), (a, .inr (6, [.ref b])), (b, .inl (cI, 36, .inl f))] (fun (r : Int32) (u : Int32 × Int32 × (Nat → Int32)) => r = (zchF f od rt fr pr p).2 / 10) (fun (u : Int32 × Int32 × (Nat → Int32)) => [(v, .inr (1, [.ref a1, .int u.1, .int u.2.1])), (a1, .inr (6, [.ref b1])), (b1, .inl (cI, 36, .inl u.2.2)), (r, .inr (3, [.ref ro, .ref rn, .ref rr, .int rt, .int fr, .int pr, .int (nI n), .int (nI m)])), (ro, .inl (cI, 4, .inl od)), (a, .inr (6, [.ref b])), (b, .inl (cI, 36, .inl f))]) := by
  refine zI_of (by decide) (Nat.le_of_ble_eq_true rfl) ?_
  intro pP eE sS mM aA bB mT cC A ls Z hP hD hS hl
  have hx := Z.1
  have hb := Z.2.1
  have hown := Z.2.2.2.2.2.1
  have hts := Z.2.2.2.2.1
  have Z : zAt pP sS mM aA mT cC D cI cZ A "SurpriseTax$Advice" cX1_worthOfNews 4 (some .int) := Z
  have hl : lv_has ls 4 [(0, .ref v), (1, .ref r), (2, .ref a), (3, .int (nI p))] := hl
  obtain ⟨H, hH⟩ : ∃ H, H = sS.heap := ⟨_, rfl⟩
  have hP : va_P D vwCl [(v, .inr (1, [.ref a1, .int ch, .int tf])), (a1, .inr (6, [.ref b1])), (b1, .inl (cI, 36, .inl g)), (r, .inr (3, [.ref ro, .ref rn, .ref rr, .int rt, .int fr, .int pr, .int (nI n), .int (nI m)])), (ro, .inl (cI, 4, .inl od)), (a, .inr (6, [.ref b])), (b, .inl (cI, 36, .inl f))] H := by rw [hH]; exact hP
  have hS : va_S A sS.heap H [] := by rw [hH]; exact hS
  rw [← hH]
  clear hH
  obtain ⟨locs, hlo⟩ : ∃ q : List Loc, q = [] := ⟨_, rfl⟩
  rw [← hlo] at hS ⊢
  clear hlo
  refine lv_aload_n hx hb dX1_worthOfNews_0 rfl (lv_at hl 0 rfl) ?_
  refine z_get (ci := 1) (v := .ref a1) Z zin1 hP 0 rfl rfl 0 (by decide) zm157 rfl rfl dX1_worthOfNews_1 ?_
  refine lv_aload_n hx hb dX1_worthOfNews_4 rfl (lv_at hl 2 rfl) ?_
  refine z_callVv (As := [.ref a]) (rest := []) (ci := 6) (k0 := 0) Z hP hD hS hl.1 (zc_X6_copyFrom l D cI cZ a1 b1 g a b f ) zm450 zm451 zm452 zm33 zm453 ⟨rfl, zd_X6_copyFrom⟩ ⟨Nat.le_of_ble_eq_true rfl, Nat.le_of_ble_eq_true rfl⟩ ⟨Nat.zero_le _, Nat.zero_le _⟩ [1, 2, 5, 6] rfl (by decide) rfl rfl rfl (fun _ => rfl) rfl (Nat.le_of_ble_eq_true rfl) rfl dX1_worthOfNews_5 (fun u H locs h_2 hP hD hS => ?_)
  have hP : va_P D vwCl [(v, .inr (1, [.ref a1, .int ch, .int tf])), (a1, .inr (6, [.ref b1])), (b1, .inl (cI, 36, .inl f)), (r, .inr (3, [.ref ro, .ref rn, .ref rr, .int rt, .int fr, .int pr, .int (nI n), .int (nI m)])), (ro, .inl (cI, 4, .inl od)), (a, .inr (6, [.ref b])), (b, .inl (cI, 36, .inl f))] H := hP
  have hD : va_D A [(v, .inr (1, [.ref a1, .int ch, .int tf])), (a1, .inr (6, [.ref b1])), (b1, .inl (cI, 36, .inl f)), (r, .inr (3, [.ref ro, .ref rn, .ref rr, .int rt, .int fr, .int pr, .int (nI n), .int (nI m)])), (ro, .inl (cI, 4, .inl od)), (a, .inr (6, [.ref b])), (b, .inl (cI, 36, .inl f))] := hD
  refine lv_aload_n hx hb dX1_worthOfNews_8 rfl (lv_at hl 0 rfl) ?_
  refine lv_aload_n hx hb dX1_worthOfNews_9 rfl (lv_at hl 1 rfl) ?_
  refine lv_iload_n hx hb dX1_worthOfNews_10 rfl (lv_at hl 3 rfl) ?_
  refine z_callVv (As := [.ref r, .int (nI p)]) (rest := []) (ci := 1) (k0 := 0) Z hP hD hS hl.1 (zc_X1_choose l D cI cZ v ch tf a1 b1 f r ro rn rr rt fr pr n m od p (by omega)) zm454 zm455 zm7 zm37 zm456 ⟨rfl, zd_X1_choose⟩ ⟨Nat.le_of_ble_eq_true rfl, Nat.le_of_ble_eq_true rfl⟩ ⟨Nat.zero_le _, Nat.zero_le _⟩ [0, 1, 2, 3, 4] rfl (by decide) rfl rfl rfl (fun _ => rfl) rfl (Nat.le_of_ble_eq_true rfl) rfl dX1_worthOfNews_11 (fun u H locs h_4 hP hD hS => ?_)
  have hP : va_P D vwCl [(v, .inr (1, [.ref a1, .int ((zchF f od rt fr pr p).1), .int ((zchF f od rt fr pr p).2)])), (a1, .inr (6, [.ref b1])), (b1, .inl (cI, 36, .inl (if f (25 + p) = -9 then zchg f p 4 else f))), (r, .inr (3, [.ref ro, .ref rn, .ref rr, .int rt, .int fr, .int pr, .int (nI n), .int (nI m)])), (ro, .inl (cI, 4, .inl od)), (a, .inr (6, [.ref b])), (b, .inl (cI, 36, .inl f))] H := hP
  have hD : va_D A [(v, .inr (1, [.ref a1, .int ((zchF f od rt fr pr p).1), .int ((zchF f od rt fr pr p).2)])), (a1, .inr (6, [.ref b1])), (b1, .inl (cI, 36, .inl (if f (25 + p) = -9 then zchg f p 4 else f))), (r, .inr (3, [.ref ro, .ref rn, .ref rr, .int rt, .int fr, .int pr, .int (nI n), .int (nI m)])), (ro, .inl (cI, 4, .inl od)), (a, .inr (6, [.ref b])), (b, .inl (cI, 36, .inl f))] := hD
  refine lv_aload_n hx hb dX1_worthOfNews_14 rfl (lv_at hl 0 rfl) ?_
  refine z_get (ci := 1) (v := .int ((zchF f od rt fr pr p).2)) Z zin1 hP 0 rfl rfl 2 (by decide) zm159 rfl rfl dX1_worthOfNews_15 ?_
  refine lv_bipush (v := nI 10) hx hb dX1_worthOfNews_18 (by decide) ?_
  refine lv_idiv hx hb dX1_worthOfNews_20 (by decide) ?_
  refine z_top (y := ((zchF f od rt fr pr p).2) / 10) rfl ?_
  exact z_iret Z ((zchF f od rt fr pr p).1, (zchF f od rt fr pr p).2, if f (25 + p) = -9 then zchg f p 4 else f) (by (first | rfl | (simp []; done) | (simp_all []; done))) hP hS dX1_worthOfNews_21

theorem dX1_playRow_0 : decode cX1_playRow 0 = .ok (.iconst 1, 1) := by decide +kernel
theorem dX1_playRow_1 : decode cX1_playRow 1 = .ok (.istore 4, 2) := by decide +kernel
theorem dX1_playRow_3 : decode cX1_playRow 3 = .ok (.iconst 0, 1) := by decide +kernel
theorem dX1_playRow_4 : decode cX1_playRow 4 = .ok (.istore 5, 2) := by decide +kernel
theorem dX1_playRow_6 : decode cX1_playRow 6 = .ok (.iload 5, 2) := by decide +kernel
theorem dX1_playRow_8 : decode cX1_playRow 8 = .ok (.iload_n 2, 1) := by decide +kernel
theorem dX1_playRow_9 : decode cX1_playRow 9 = .ok (.if_icmp .ge 41, 3) := by decide +kernel
theorem dX1_playRow_12 : decode cX1_playRow 12 = .ok (.iload_n 3, 1) := by decide +kernel
theorem dX1_playRow_13 : decode cX1_playRow 13 = .ok (.iload_n 2, 1) := by decide +kernel
theorem dX1_playRow_14 : decode cX1_playRow 14 = .ok (.iload 5, 2) := by decide +kernel
theorem dX1_playRow_16 : decode cX1_playRow 16 = .ok (.invokestatic 51, 3) := by decide +kernel
theorem dX1_playRow_19 : decode cX1_playRow 19 = .ok (.istore 6, 2) := by decide +kernel
theorem dX1_playRow_21 : decode cX1_playRow 21 = .ok (.iload 4, 2) := by decide +kernel
theorem dX1_playRow_23 : decode cX1_playRow 23 = .ok (.aload_n 1, 1) := by decide +kernel
theorem dX1_playRow_24 : decode cX1_playRow 24 = .ok (.getfield 41, 3) := by decide +kernel
theorem dX1_playRow_27 : decode cX1_playRow 27 = .ok (.iload 6, 2) := by decide +kernel
theorem dX1_playRow_29 : decode cX1_playRow 29 = .ok (.iaload, 1) := by decide +kernel
theorem dX1_playRow_30 : decode cX1_playRow 30 = .ok (.imul, 1) := by decide +kernel
theorem dX1_playRow_31 : decode cX1_playRow 31 = .ok (.istore 4, 2) := by decide +kernel
theorem dX1_playRow_33 : decode cX1_playRow 33 = .ok (.aload_n 1, 1) := by decide +kernel
theorem dX1_playRow_34 : decode cX1_playRow 34 = .ok (.aload_n 0, 1) := by decide +kernel
theorem dX1_playRow_35 : decode cX1_playRow 35 = .ok (.getfield 12, 3) := by decide +kernel
theorem dX1_playRow_38 : decode cX1_playRow 38 = .ok (.iload 6, 2) := by decide +kernel
theorem dX1_playRow_40 : decode cX1_playRow 40 = .ok (.invokevirtual 55, 3) := by decide +kernel
theorem dX1_playRow_43 : decode cX1_playRow 43 = .ok (.pop, 1) := by decide +kernel
theorem dX1_playRow_44 : decode cX1_playRow 44 = .ok (.iinc 5 1, 3) := by decide +kernel
theorem dX1_playRow_47 : decode cX1_playRow 47 = .ok (.goto (-41), 3) := by decide +kernel
theorem dX1_playRow_50 : decode cX1_playRow 50 = .ok (.iload 4, 2) := by decide +kernel
theorem dX1_playRow_52 : decode cX1_playRow 52 = .ok (.ireturn, 1) := by decide +kernel
theorem zd_X1_playRow : yX1_playRow.cls ≠ "java/lang/invoke/MethodHandle" ∧ yX1_playRow.cls ≠ "java/lang/invoke/VarHandle" ∧ (parseMethodDescriptor yX1_playRow.desc).map (fun d => d.parameters.length) = some 3 := by decide +kernel
set_option maxHeartbeats 4000000 in
set_option maxRecDepth 100000 in
theorem zc_X1_playRow (l : Launch) (D : va_G) (cI cZ : ClassId) (v : Nat) (ch : Int32) (tf : Int32) (a1 : Nat) (b1 : Nat) (g : Nat → Int32) (r : Nat) (ro : Nat) (rn : Nat) (rr : Nat) (rt : Int32) (fr : Int32) (pr : Int32) (n : Nat) (m : Nat) (od : Nat → Int32) (d : Nat) (w : Nat) (hn : n ≤ 5) (hd : d ≤ 4) (hw : w < 2147483648) : zI l yX1_playRow cX1_playRow 7 .int 4 88 D cI cZ [.ref v, .ref r, .int (nI d), .int (nI w)] [(v, .inr (1, [.ref a1, .int ch, .int tf])), (a1, .inr (6, [.ref b1])), (b1, .inl (cI, 36, .inl g)), (r, .inr (3, [.ref ro, .ref rn, .ref rr, .int rt, .int fr, .int pr, .int (nI n), .int (nI m)])), (ro, .inl (cI, 4, .inl od))] (fun (r : Int32) (u : Unit) => r = zpw od d w d) (fun (u : Unit) => [(v, .inr (1, [.ref a1, .int ch, .int tf])), (a1, .inr (6, [.ref b1])), (b1, .inl (cI, 36, .inl (zpg g rt fr n d w d))), (r, .inr (3, [.ref ro, .ref rn, .ref rr, .int rt, .int fr, .int pr, .int (nI n), .int (nI m)])), (ro, .inl (cI, 4, .inl od))]) := by
  refine zI_of (by decide) (Nat.le_of_ble_eq_true rfl) ?_
  intro pP eE sS mM aA bB mT cC A ls Z hP hD hS hl
  have hx := Z.1
  have hb := Z.2.1
  have hown := Z.2.2.2.2.2.1
  have hts := Z.2.2.2.2.1
  have Z : zAt pP sS mM aA mT cC D cI cZ A "SurpriseTax$Advice" cX1_playRow 7 (some .int) := Z
  have hl : lv_has ls 7 [(0, .ref v), (1, .ref r), (2, .int (nI d)), (3, .int (nI w))] := hl
  obtain ⟨H, hH⟩ : ∃ H, H = sS.heap := ⟨_, rfl⟩
  have hP : va_P D vwCl [(v, .inr (1, [.ref a1, .int ch, .int tf])), (a1, .inr (6, [.ref b1])), (b1, .inl (cI, 36, .inl g)), (r, .inr (3, [.ref ro, .ref rn, .ref rr, .int rt, .int fr, .int pr, .int (nI n), .int (nI m)])), (ro, .inl (cI, 4, .inl od))] H := by rw [hH]; exact hP
  have hS : va_S A sS.heap H [] := by rw [hH]; exact hS
  rw [← hH]
  clear hH
  obtain ⟨locs, hlo⟩ : ∃ q : List Loc, q = [] := ⟨_, rfl⟩
  rw [← hlo] at hS ⊢
  clear hlo
  refine lv_iconst (v := nI 1) hx hb dX1_playRow_0 (by decide) ?_
  refine lv_istore (lv' := [(4, .int (nI 1)), (0, .ref v), (1, .ref r), (2, .int (nI d)), (3, .int (nI w))]) hx hb dX1_playRow_1 hl (by decide) rfl (fun ls hl => ?_)
  refine lv_iconst (v := nI 0) hx hb dX1_playRow_3 (by decide) ?_
  refine lv_istore (lv' := [(5, .int (nI 0)), (4, .int (nI 1)), (0, .ref v), (1, .ref r), (2, .int (nI d)), (3, .int (nI w))]) hx hb dX1_playRow_4 hl (by decide) rfl (fun ls hl => ?_)
  have e_2 : g = zpg g rt fr n d w 0 := by (first | rfl | (simp []; done) | (simp_all []; done))
  have hP : va_P D vwCl [(v, .inr (1, [.ref a1, .int ch, .int tf])), (a1, .inr (6, [.ref b1])), (b1, .inl (cI, 36, .inl (zpg g rt fr n d w 0))), (r, .inr (3, [.ref ro, .ref rn, .ref rr, .int rt, .int fr, .int pr, .int (nI n), .int (nI m)])), (ro, .inl (cI, 4, .inl od))] H := Eq.subst (motive := fun zz_ => va_P D vwCl [(v, .inr (1, [.ref a1, .int ch, .int tf])), (a1, .inr (6, [.ref b1])), (b1, .inl (cI, 36, .inl zz_)), (r, .inr (3, [.ref ro, .ref rn, .ref rr, .int rt, .int fr, .int pr, .int (nI n), .int (nI m)])), (ro, .inl (cI, 4, .inl od))] H) e_2 hP
  have hD : va_D A [(v, .inr (1, [.ref a1, .int ch, .int tf])), (a1, .inr (6, [.ref b1])), (b1, .inl (cI, 36, .inl (zpg g rt fr n d w 0))), (r, .inr (3, [.ref ro, .ref rn, .ref rr, .int rt, .int fr, .int pr, .int (nI n), .int (nI m)])), (ro, .inl (cI, 4, .inl od))] := zD_of hD rfl
  have hl : lv_has ls 7 [(5, .int (nI 0)), (4, .int (nI 1)), (0, .ref v), (1, .ref r), (2, .int (nI d)), (3, .int (nI w))] := lv_sub hl [0, 1, 2, 3, 4, 5] rfl
  have e_3 : nI 1 = zpw od d w 0 := by (first | rfl | (simp []; done) | (simp_all []; done))
  have hl : lv_has ls 7 [(5, .int (nI 0)), (4, .int (zpw od d w 0)), (0, .ref v), (1, .ref r), (2, .int (nI d)), (3, .int (nI w))] := Eq.subst (motive := fun zz_ => lv_has ls 7 [(5, .int (nI 0)), (4, .int zz_), (0, .ref v), (1, .ref r), (2, .int (nI d)), (3, .int (nI w))]) e_3 hl
  refine z_loop (fun i H locs ls => va_P D vwCl [(v, .inr (1, [.ref a1, .int ch, .int tf])), (a1, .inr (6, [.ref b1])), (b1, .inl (cI, 36, .inl (zpg g rt fr n d w i))), (r, .inr (3, [.ref ro, .ref rn, .ref rr, .int rt, .int fr, .int pr, .int (nI n), .int (nI m)])), (ro, .inl (cI, 4, .inl od))] H ∧ va_D A [(v, .inr (1, [.ref a1, .int ch, .int tf])), (a1, .inr (6, [.ref b1])), (b1, .inl (cI, 36, .inl (zpg g rt fr n d w i))), (r, .inr (3, [.ref ro, .ref rn, .ref rr, .int rt, .int fr, .int pr, .int (nI n), .int (nI m)])), (ro, .inl (cI, 4, .inl od))] ∧ va_S A sS.heap H locs ∧ lv_has ls 7 [(5, .int (nI i)), (4, .int (zpw od d w i)), (0, .ref v), (1, .ref r), (2, .int (nI d)), (3, .int (nI w))]) (d) (lo := 0) (by omega) ⟨hP, hD, hS, hl⟩ (fun i hi_i ih_1 H locs ls hI => ?_)
  obtain ⟨hP, hD, hS, hl⟩ := hI
  have hP : va_P D vwCl [(v, .inr (1, [.ref a1, .int ch, .int tf])), (a1, .inr (6, [.ref b1])), (b1, .inl (cI, 36, .inl (zpg g rt fr n d w i))), (r, .inr (3, [.ref ro, .ref rn, .ref rr, .int rt, .int fr, .int pr, .int (nI n), .int (nI m)])), (ro, .inl (cI, 4, .inl od))] H := hP
  have hD : va_D A [(v, .inr (1, [.ref a1, .int ch, .int tf])), (a1, .inr (6, [.ref b1])), (b1, .inl (cI, 36, .inl (zpg g rt fr n d w i))), (r, .inr (3, [.ref ro, .ref rn, .ref rr, .int rt, .int fr, .int pr, .int (nI n), .int (nI m)])), (ro, .inl (cI, 4, .inl od))] := hD
  have hl : lv_has ls 7 [(5, .int (nI i)), (4, .int (zpw od d w i)), (0, .ref v), (1, .ref r), (2, .int (nI d)), (3, .int (nI w))] := hl
  refine lv_iload hx hb dX1_playRow_6 (lv_at hl 0 rfl) ?_
  refine lv_iload_n hx hb dX1_playRow_8 rfl (lv_at hl 4 rfl) ?_
  refine lv_icmp_ge (tgt := 50) hx hb dX1_playRow_9 (by decide) (fun c_4 => ?_) (fun c_4 => ?_)
  · have c_4 := zle (i := d) (j := i) (by omega) (by omega) c_4
    have hE_ : d = i := by omega
    subst hE_
    refine lv_iload hx hb dX1_playRow_50 (lv_at hl 1 rfl) ?_
    exact z_iret Z () rfl hP hS dX1_playRow_52
  · have c_4 := znle (i := d) (j := i) (by omega) (by omega) c_4
    refine lv_iload_n hx hb dX1_playRow_12 rfl (lv_at hl 5 rfl) ?_
    refine lv_iload_n hx hb dX1_playRow_13 rfl (lv_at hl 4 rfl) ?_
    refine lv_iload hx hb dX1_playRow_14 (lv_at hl 0 rfl) ?_
    refine z_callNi (As := [.int (nI w), .int (nI d), .int (nI i)]) (rest := []) Z hP hD hS hl.1 (zc_X8_kindAt l D cI cZ w d i (by omega) (by omega) (by omega)) zn28 zm473 zm30 zm474 zd_X8_kindAt ⟨Nat.le_of_ble_eq_true rfl, Nat.le_of_ble_eq_true rfl⟩ ⟨Nat.zero_le _, Nat.zero_le _⟩ [] rfl (by decide) (fun _ => rfl) rfl (Nat.le_of_ble_eq_true rfl) rfl dX1_playRow_16 (fun r_5 u H locs h_6 hP hD hS => ?_)
    have hP : va_P D vwCl [(v, .inr (1, [.ref a1, .int ch, .int tf])), (a1, .inr (6, [.ref b1])), (b1, .inl (cI, 36, .inl (zpg g rt fr n d w i))), (r, .inr (3, [.ref ro, .ref rn, .ref rr, .int rt, .int fr, .int pr, .int (nI n), .int (nI m)])), (ro, .inl (cI, 4, .inl od))] H := hP
    have hD : va_D A [(v, .inr (1, [.ref a1, .int ch, .int tf])), (a1, .inr (6, [.ref b1])), (b1, .inl (cI, 36, .inl (zpg g rt fr n d w i))), (r, .inr (3, [.ref ro, .ref rn, .ref rr, .int rt, .int fr, .int pr, .int (nI n), .int (nI m)])), (ro, .inl (cI, 4, .inl od))] := hD
    have h_6 : r_5 = nI (zki w d i) := h_6
    subst h_6
    refine lv_istore (lv' := [(6, .int (nI (zki w d i))), (5, .int (nI i)), (4, .int (zpw od d w i)), (0, .ref v), (1, .ref r), (2, .int (nI d)), (3, .int (nI w))]) hx hb dX1_playRow_19 hl (by decide) rfl (fun ls hl => ?_)
    have hk4 := zki_lt w d i
    refine lv_iload hx hb dX1_playRow_21 (lv_at hl 2 rfl) ?_
    refine lv_aload_n hx hb dX1_playRow_23 rfl (lv_at hl 4 rfl) ?_
    refine z_getN (ci := 3) (v := .ref ro) Z zin3 hP 3 rfl rfl 0 (by decide) zn3 rfl rfl dX1_playRow_24 ?_
    refine lv_iload hx hb dX1_playRow_27 (lv_at hl 0 rfl) ?_
    refine z_iald (n := 4) (f := od) (j := zki w d i) Z hP 4 rfl (by omega) (by decide) dX1_playRow_29 ?_
    refine lv_imul hx hb dX1_playRow_30 ?_
    refine z_top (y := (zpw od d w i) * (od (zki w d i))) rfl ?_
    refine lv_istore (lv' := [(4, .int ((zpw od d w i) * (od (zki w d i)))), (6, .int (nI (zki w d i))), (5, .int (nI i)), (0, .ref v), (1, .ref r), (2, .int (nI d)), (3, .int (nI w))]) hx hb dX1_playRow_31 hl (by decide) rfl (fun ls hl => ?_)
    refine lv_aload_n hx hb dX1_playRow_33 rfl (lv_at hl 4 rfl) ?_
    refine lv_aload_n hx hb dX1_playRow_34 rfl (lv_at hl 3 rfl) ?_
    refine z_get (ci := 1) (v := .ref a1) Z zin1 hP 0 rfl rfl 0 (by decide) zm157 rfl rfl dX1_playRow_35 ?_
    refine lv_iload hx hb dX1_playRow_38 (lv_at hl 1 rfl) ?_
    refine z_callVi (As := [.ref a1, .int (nI (zki w d i))]) (rest := []) (ci := 3) (k0 := 0) Z hP hD hS hl.1 (zc_X3_come l D cI cZ r ro rn rr rt fr pr n m a1 b1 (zpg g rt fr n d w i) (zki w d i) (by omega) (by omega)) zm475 zm388 zm389 zm32 zm390 ⟨rfl, zd_X3_come⟩ ⟨Nat.le_of_ble_eq_true rfl, Nat.le_of_ble_eq_true rfl⟩ ⟨Nat.zero_le _, Nat.zero_le _⟩ [3, 1, 2] rfl (by decide) rfl rfl rfl (fun _ => rfl) rfl (Nat.le_of_ble_eq_true rfl) rfl dX1_playRow_40 (fun r_7 u H locs h_8 hP hD hS => ?_)
    have hP : va_P D vwCl [(v, .inr (1, [.ref a1, .int ch, .int tf])), (a1, .inr (6, [.ref b1])), (b1, .inl (cI, 36, .inl (zcome (zpg g rt fr n d w i) rt fr n (zki w d i)))), (r, .inr (3, [.ref ro, .ref rn, .ref rr, .int rt, .int fr, .int pr, .int (nI n), .int (nI m)])), (ro, .inl (cI, 4, .inl od))] H := hP
    have hD : va_D A [(v, .inr (1, [.ref a1, .int ch, .int tf])), (a1, .inr (6, [.ref b1])), (b1, .inl (cI, 36, .inl (zcome (zpg g rt fr n d w i) rt fr n (zki w d i)))), (r, .inr (3, [.ref ro, .ref rn, .ref rr, .int rt, .int fr, .int pr, .int (nI n), .int (nI m)])), (ro, .inl (cI, 4, .inl od))] := hD
    have h_8 : r_7 = zcs (zpg g rt fr n d w i) rt fr (zki w d i) n := h_8
    subst h_8
    refine lv_pop hx hb dX1_playRow_43 rfl ?_
    refine lv_iinc (v := nI (i + 1)) (lv' := [(5, .int (nI (i + 1))), (4, .int ((zpw od d w i) * (od (zki w d i)))), (6, .int (nI (zki w d i))), (0, .ref v), (1, .ref r), (2, .int (nI d)), (3, .int (nI w))]) hx hb dX1_playRow_44 hl (k := 2) rfl (z_inc _ 1) (by decide) rfl (fun ls hl => ?_)
    refine lv_goto (tgt := 6) hx hb dX1_playRow_47 (by decide) ?_
    have e_9 : zcome (zpg g rt fr n d w i) rt fr n (zki w d i) = zpg g rt fr n d w (i + 1) := by (first | rfl | (simp [c_4]; done) | (simp_all []; done))
    have hP : va_P D vwCl [(v, .inr (1, [.ref a1, .int ch, .int tf])), (a1, .inr (6, [.ref b1])), (b1, .inl (cI, 36, .inl (zpg g rt fr n d w (i + 1)))), (r, .inr (3, [.ref ro, .ref rn, .ref rr, .int rt, .int fr, .int pr, .int (nI n), .int (nI m)])), (ro, .inl (cI, 4, .inl od))] H := Eq.subst (motive := fun zz_ => va_P D vwCl [(v, .inr (1, [.ref a1, .int ch, .int tf])), (a1, .inr (6, [.ref b1])), (b1, .inl (cI, 36, .inl zz_)), (r, .inr (3, [.ref ro, .ref rn, .ref rr, .int rt, .int fr, .int pr, .int (nI n), .int (nI m)])), (ro, .inl (cI, 4, .inl od))] H) e_9 hP
    have hD : va_D A [(v, .inr (1, [.ref a1, .int ch, .int tf])), (a1, .inr (6, [.ref b1])), (b1, .inl (cI, 36, .inl (zpg g rt fr n d w (i + 1)))), (r, .inr (3, [.ref ro, .ref rn, .ref rr, .int rt, .int fr, .int pr, .int (nI n), .int (nI m)])), (ro, .inl (cI, 4, .inl od))] := zD_of hD rfl
    have hl : lv_has ls 7 [(5, .int (nI (i + 1))), (4, .int ((zpw od d w i) * (od (zki w d i)))), (0, .ref v), (1, .ref r), (2, .int (nI d)), (3, .int (nI w))] := lv_sub hl [0, 1, 3, 4, 5, 6] rfl
    have e_10 : (zpw od d w i) * (od (zki w d i)) = zpw od d w (i + 1) := by (first | rfl | (simp [c_4]; done) | (simp_all []; done))
    have hl : lv_has ls 7 [(5, .int (nI (i + 1))), (4, .int (zpw od d w (i + 1))), (0, .ref v), (1, .ref r), (2, .int (nI d)), (3, .int (nI w))] := Eq.subst (motive := fun zz_ => lv_has ls 7 [(5, .int (nI (i + 1))), (4, .int zz_), (0, .ref v), (1, .ref r), (2, .int (nI d)), (3, .int (nI w))]) e_10 hl
    exact ih_1 _ _ _ (by omega) ⟨hP, hD, hS, hl⟩

theorem dX1_fairPrize_0 : decode cX1_fairPrize 0 = .ok (.aload_n 1, 1) := by decide +kernel
theorem dX1_fairPrize_1 : decode cX1_fairPrize 1 = .ok (.getfield 41, 3) := by decide +kernel
theorem dX1_fairPrize_4 : decode cX1_fairPrize 4 = .ok (.iload 4, 2) := by decide +kernel
theorem dX1_fairPrize_6 : decode cX1_fairPrize 6 = .ok (.iaload, 1) := by decide +kernel
theorem dX1_fairPrize_7 : decode cX1_fairPrize 7 = .ok (.istore 6, 2) := by decide +kernel
theorem dX1_fairPrize_9 : decode cX1_fairPrize 9 = .ok (.iload 6, 2) := by decide +kernel
theorem dX1_fairPrize_11 : decode cX1_fairPrize 11 = .ok (.ifCond .ne 6, 3) := by decide +kernel
theorem dX1_fairPrize_14 : decode cX1_fairPrize 14 = .ok (.bipush (-9), 2) := by decide +kernel
theorem dX1_fairPrize_16 : decode cX1_fairPrize 16 = .ok (.ireturn, 1) := by decide +kernel
theorem dX1_fairPrize_17 : decode cX1_fairPrize 17 = .ok (.bipush 10, 2) := by decide +kernel
theorem dX1_fairPrize_19 : decode cX1_fairPrize 19 = .ok (.iload 5, 2) := by decide +kernel
theorem dX1_fairPrize_21 : decode cX1_fairPrize 21 = .ok (.imul, 1) := by decide +kernel
theorem dX1_fairPrize_22 : decode cX1_fairPrize 22 = .ok (.aload_n 1, 1) := by decide +kernel
theorem dX1_fairPrize_23 : decode cX1_fairPrize 23 = .ok (.aload_n 2, 1) := by decide +kernel
theorem dX1_fairPrize_24 : decode cX1_fairPrize 24 = .ok (.iload_n 3, 1) := by decide +kernel
theorem dX1_fairPrize_25 : decode cX1_fairPrize 25 = .ok (.invokevirtual 47, 3) := by decide +kernel
theorem dX1_fairPrize_28 : decode cX1_fairPrize 28 = .ok (.iadd, 1) := by decide +kernel
theorem dX1_fairPrize_29 : decode cX1_fairPrize 29 = .ok (.istore 7, 2) := by decide +kernel
theorem dX1_fairPrize_31 : decode cX1_fairPrize 31 = .ok (.iload 7, 2) := by decide +kernel
theorem dX1_fairPrize_33 : decode cX1_fairPrize 33 = .ok (.iload 6, 2) := by decide +kernel
theorem dX1_fairPrize_35 : decode cX1_fairPrize 35 = .ok (.iadd, 1) := by decide +kernel
theorem dX1_fairPrize_36 : decode cX1_fairPrize 36 = .ok (.iconst 1, 1) := by decide +kernel
theorem dX1_fairPrize_37 : decode cX1_fairPrize 37 = .ok (.isub, 1) := by decide +kernel
theorem dX1_fairPrize_38 : decode cX1_fairPrize 38 = .ok (.iload 6, 2) := by decide +kernel
theorem dX1_fairPrize_40 : decode cX1_fairPrize 40 = .ok (.idiv, 1) := by decide +kernel
theorem dX1_fairPrize_41 : decode cX1_fairPrize 41 = .ok (.ireturn, 1) := by decide +kernel
theorem zd_X1_fairPrize : yX1_fairPrize.cls ≠ "java/lang/invoke/MethodHandle" ∧ yX1_fairPrize.cls ≠ "java/lang/invoke/VarHandle" ∧ (parseMethodDescriptor yX1_fairPrize.desc).map (fun d => d.parameters.length) = some 5 := by decide +kernel
set_option maxHeartbeats 4000000 in
set_option maxRecDepth 100000 in
theorem zc_X1_fairPrize (l : Launch) (D : va_G) (cI cZ : ClassId) (v : Nat) (ch : Int32) (tf : Int32) (a1 : Nat) (r : Nat) (ro : Nat) (rn : Nat) (rr : Nat) (rt : Int32) (fr : Int32) (pr : Int32) (n : Nat) (m : Nat) (od : Nat → Int32) (a : Nat) (b : Nat) (f : Nat → Int32) (p : Nat) (k : Nat) (t : Int32) (hp : p < 5) (hk : k < 4) : zI l yX1_fairPrize cX1_fairPrize 8 .int 4 85 D cI cZ [.ref v, .ref r, .ref a, .int (nI p), .int (nI k), .int t] [(v, .inr (1, [.ref a1, .int ch, .int tf])), (r, .inr (3, [.ref ro, .ref rn, .ref rr, .int rt, .int fr, .int pr, .int (nI n), .int (nI m)])), (ro, .inl (cI, 4, .inl od)), (a, .inr (6, [.ref b])), (b, .inl (cI, 36, .inl f))] (fun (r : Int32) (u : Unit) => r = zfair f od rt fr p k t) (fun (u : Unit) => [(v, .inr (1, [.ref a1, .int ch, .int tf])), (r, .inr (3, [.ref ro, .ref rn, .ref rr, .int rt, .int fr, .int pr, .int (nI n), .int (nI m)])), (ro, .inl (cI, 4, .inl od)), (a, .inr (6, [.ref b])), (b, .inl (cI, 36, .inl f))]) := by
  refine zI_of (by decide) (Nat.le_of_ble_eq_true rfl) ?_
  intro pP eE sS mM aA bB mT cC A ls Z hP hD hS hl
  have hx := Z.1
  have hb := Z.2.1
  have hown := Z.2.2.2.2.2.1
  have hts := Z.2.2.2.2.1
  have Z : zAt pP sS mM aA mT cC D cI cZ A "SurpriseTax$Advice" cX1_fairPrize 8 (some .int) := Z
  have hl : lv_has ls 8 [(0, .ref v), (1, .ref r), (2, .ref a), (3, .int (nI p)), (4, .int (nI k)), (5, .int t)] := hl
  obtain ⟨H, hH⟩ : ∃ H, H = sS.heap := ⟨_, rfl⟩
  have hP : va_P D vwCl [(v, .inr (1, [.ref a1, .int ch, .int tf])), (r, .inr (3, [.ref ro, .ref rn, .ref rr, .int rt, .int fr, .int pr, .int (nI n), .int (nI m)])), (ro, .inl (cI, 4, .inl od)), (a, .inr (6, [.ref b])), (b, .inl (cI, 36, .inl f))] H := by rw [hH]; exact hP
  have hS : va_S A sS.heap H [] := by rw [hH]; exact hS
  rw [← hH]
  clear hH
  obtain ⟨locs, hlo⟩ : ∃ q : List Loc, q = [] := ⟨_, rfl⟩
  rw [← hlo] at hS ⊢
  clear hlo
  refine lv_aload_n hx hb dX1_fairPrize_0 rfl (lv_at hl 1 rfl) ?_
  refine z_getN (ci := 3) (v := .ref ro) Z zin3 hP 1 rfl rfl 0 (by decide) zn3 rfl rfl dX1_fairPrize_1 ?_
  refine lv_iload hx hb dX1_fairPrize_4 (lv_at hl 4 rfl) ?_
  refine z_iald (n := 4) (f := od) (j := k) Z hP 2 rfl (by omega) (by decide) dX1_fairPrize_6 ?_
  refine lv_istore (lv' := [(6, .int (od k)), (0, .ref v), (1, .ref r), (2, .ref a), (3, .int (nI p)), (4, .int (nI k)), (5, .int t)]) hx hb dX1_fairPrize_7 hl (by decide) rfl (fun ls hl => ?_)
  refine lv_iload hx hb dX1_fairPrize_9 (lv_at hl 0 rfl) ?_
  refine lv_if_ne (tgt := 17) hx hb dX1_fairPrize_11 (by decide) (fun c_1 => ?_) (fun c_1 => ?_)
  · have c_1 : ¬ ((od k) = 0) := c_1
    refine lv_bipush (v := nI 10) hx hb dX1_fairPrize_17 (by decide) ?_
    refine lv_iload hx hb dX1_fairPrize_19 (lv_at hl 6 rfl) ?_
    refine lv_imul hx hb dX1_fairPrize_21 ?_
    refine z_top (y := 10 * t) rfl ?_
    refine lv_aload_n hx hb dX1_fairPrize_22 rfl (lv_at hl 2 rfl) ?_
    refine lv_aload_n hx hb dX1_fairPrize_23 rfl (lv_at hl 3 rfl) ?_
    refine lv_iload_n hx hb dX1_fairPrize_24 rfl (lv_at hl 4 rfl) ?_
    refine z_callVi (As := [.ref a, .int (nI p)]) (rest := [.int (10 * t)]) (ci := 3) (k0 := 0) Z hP hD hS hl.1 (zc_X3_meanTenfold l D cI cZ r ro rn rr rt fr pr n m od a b f p (by omega)) zm457 zm433 zm434 zm32 zm435 ⟨rfl, zd_X3_meanTenfold⟩ ⟨Nat.le_of_ble_eq_true rfl, Nat.le_of_ble_eq_true rfl⟩ ⟨Nat.zero_le _, Nat.zero_le _⟩ [1, 2, 3, 4] rfl (by decide) rfl rfl rfl (fun _ => rfl) rfl (Nat.le_of_ble_eq_true rfl) rfl dX1_fairPrize_25 (fun r_2 u H locs h_3 hP hD hS => ?_)
    have hP : va_P D vwCl [(v, .inr (1, [.ref a1, .int ch, .int tf])), (r, .inr (3, [.ref ro, .ref rn, .ref rr, .int rt, .int fr, .int pr, .int (nI n), .int (nI m)])), (ro, .inl (cI, 4, .inl od)), (a, .inr (6, [.ref b])), (b, .inl (cI, 36, .inl f))] H := hP
    have hD : va_D A [(v, .inr (1, [.ref a1, .int ch, .int tf])), (r, .inr (3, [.ref ro, .ref rn, .ref rr, .int rt, .int fr, .int pr, .int (nI n), .int (nI m)])), (ro, .inl (cI, 4, .inl od)), (a, .inr (6, [.ref b])), (b, .inl (cI, 36, .inl f))] := hD
    have h_3 : r_2 = zmt f od rt fr p 4 := h_3
    subst h_3
    refine lv_iadd hx hb dX1_fairPrize_28 ?_
    refine z_top (y := (10 * t) + (zmt f od rt fr p 4)) rfl ?_
    refine lv_istore (lv' := [(7, .int ((10 * t) + (zmt f od rt fr p 4))), (6, .int (od k)), (0, .ref v), (1, .ref r), (2, .ref a), (3, .int (nI p)), (4, .int (nI k)), (5, .int t)]) hx hb dX1_fairPrize_29 hl (by decide) rfl (fun ls hl => ?_)
    refine lv_iload hx hb dX1_fairPrize_31 (lv_at hl 0 rfl) ?_
    refine lv_iload hx hb dX1_fairPrize_33 (lv_at hl 1 rfl) ?_
    refine lv_iadd hx hb dX1_fairPrize_35 ?_
    refine z_top (y := ((10 * t) + (zmt f od rt fr p 4)) + (od k)) rfl ?_
    refine lv_iconst (v := nI 1) hx hb dX1_fairPrize_36 (by decide) ?_
    refine lv_isub hx hb dX1_fairPrize_37 ?_
    refine z_top (y := (((10 * t) + (zmt f od rt fr p 4)) + (od k)) - 1) rfl ?_
    refine lv_iload hx hb dX1_fairPrize_38 (lv_at hl 1 rfl) ?_
    refine lv_idiv hx hb dX1_fairPrize_40 (by assumption) ?_
    refine z_top (y := ((((10 * t) + (zmt f od rt fr p 4)) + (od k)) - 1) / (od k)) rfl ?_
    exact z_iret Z () (by first | rfl | (unfold zfair; rw [if_pos (by assumption)]) | (unfold zfair; rw [if_neg (by assumption)])) hP hS dX1_fairPrize_41
  · have c_1 : (od k) = 0 := c_1
    refine lv_bipush (v := -9) hx hb dX1_fairPrize_14 (by decide) ?_
    exact z_iret Z () (by first | rfl | (unfold zfair; rw [if_pos (by assumption)]) | (unfold zfair; rw [if_neg (by assumption)])) hP hS dX1_fairPrize_16

theorem dX1_leastTenfold_0 : decode cX1_leastTenfold 0 = .ok (.iconst 0, 1) := by decide +kernel
theorem dX1_leastTenfold_1 : decode cX1_leastTenfold 1 = .ok (.istore 5, 2) := by decide +kernel
theorem dX1_leastTenfold_3 : decode cX1_leastTenfold 3 = .ok (.iconst 0, 1) := by decide +kernel
theorem dX1_leastTenfold_4 : decode cX1_leastTenfold 4 = .ok (.istore 6, 2) := by decide +kernel
theorem dX1_leastTenfold_6 : decode cX1_leastTenfold 6 = .ok (.iload 6, 2) := by decide +kernel
theorem dX1_leastTenfold_8 : decode cX1_leastTenfold 8 = .ok (.iload 4, 2) := by decide +kernel
theorem dX1_leastTenfold_10 : decode cX1_leastTenfold 10 = .ok (.if_icmp .ge 87, 3) := by decide +kernel
theorem dX1_leastTenfold_13 : decode cX1_leastTenfold 13 = .ok (.bipush 10, 2) := by decide +kernel
theorem dX1_leastTenfold_15 : decode cX1_leastTenfold 15 = .ok (.iload 4, 2) := by decide +kernel
theorem dX1_leastTenfold_17 : decode cX1_leastTenfold 17 = .ok (.iconst 1, 1) := by decide +kernel
theorem dX1_leastTenfold_18 : decode cX1_leastTenfold 18 = .ok (.isub, 1) := by decide +kernel
theorem dX1_leastTenfold_19 : decode cX1_leastTenfold 19 = .ok (.iload 6, 2) := by decide +kernel
theorem dX1_leastTenfold_21 : decode cX1_leastTenfold 21 = .ok (.isub, 1) := by decide +kernel
theorem dX1_leastTenfold_22 : decode cX1_leastTenfold 22 = .ok (.invokestatic 33, 3) := by decide +kernel
theorem dX1_leastTenfold_25 : decode cX1_leastTenfold 25 = .ok (.istore 7, 2) := by decide +kernel
theorem dX1_leastTenfold_27 : decode cX1_leastTenfold 27 = .ok (.iconst 4, 1) := by decide +kernel
theorem dX1_leastTenfold_28 : decode cX1_leastTenfold 28 = .ok (.iload 6, 2) := by decide +kernel
theorem dX1_leastTenfold_30 : decode cX1_leastTenfold 30 = .ok (.invokestatic 33, 3) := by decide +kernel
theorem dX1_leastTenfold_33 : decode cX1_leastTenfold 33 = .ok (.istore 8, 2) := by decide +kernel
theorem dX1_leastTenfold_35 : decode cX1_leastTenfold 35 = .ok (.iconst 0, 1) := by decide +kernel
theorem dX1_leastTenfold_36 : decode cX1_leastTenfold 36 = .ok (.istore 9, 2) := by decide +kernel
theorem dX1_leastTenfold_38 : decode cX1_leastTenfold 38 = .ok (.iload 9, 2) := by decide +kernel
theorem dX1_leastTenfold_40 : decode cX1_leastTenfold 40 = .ok (.iload 8, 2) := by decide +kernel
theorem dX1_leastTenfold_42 : decode cX1_leastTenfold 42 = .ok (.if_icmp .ge 49, 3) := by decide +kernel
theorem dX1_leastTenfold_45 : decode cX1_leastTenfold 45 = .ok (.aload_n 0, 1) := by decide +kernel
theorem dX1_leastTenfold_46 : decode cX1_leastTenfold 46 = .ok (.getfield 12, 3) := by decide +kernel
theorem dX1_leastTenfold_49 : decode cX1_leastTenfold 49 = .ok (.aload_n 2, 1) := by decide +kernel
theorem dX1_leastTenfold_50 : decode cX1_leastTenfold 50 = .ok (.invokevirtual 25, 3) := by decide +kernel
theorem dX1_leastTenfold_53 : decode cX1_leastTenfold 53 = .ok (.aload_n 0, 1) := by decide +kernel
theorem dX1_leastTenfold_54 : decode cX1_leastTenfold 54 = .ok (.aload_n 1, 1) := by decide +kernel
theorem dX1_leastTenfold_55 : decode cX1_leastTenfold 55 = .ok (.iload 6, 2) := by decide +kernel
theorem dX1_leastTenfold_57 : decode cX1_leastTenfold 57 = .ok (.iload 9, 2) := by decide +kernel
theorem dX1_leastTenfold_59 : decode cX1_leastTenfold 59 = .ok (.invokevirtual 37, 3) := by decide +kernel
theorem dX1_leastTenfold_62 : decode cX1_leastTenfold 62 = .ok (.istore 10, 2) := by decide +kernel
theorem dX1_leastTenfold_64 : decode cX1_leastTenfold 64 = .ok (.aload_n 0, 1) := by decide +kernel
theorem dX1_leastTenfold_65 : decode cX1_leastTenfold 65 = .ok (.aload_n 1, 1) := by decide +kernel
theorem dX1_leastTenfold_66 : decode cX1_leastTenfold 66 = .ok (.iload_n 3, 1) := by decide +kernel
theorem dX1_leastTenfold_67 : decode cX1_leastTenfold 67 = .ok (.invokevirtual 29, 3) := by decide +kernel
theorem dX1_leastTenfold_70 : decode cX1_leastTenfold 70 = .ok (.iload 5, 2) := by decide +kernel
theorem dX1_leastTenfold_72 : decode cX1_leastTenfold 72 = .ok (.iload 10, 2) := by decide +kernel
theorem dX1_leastTenfold_74 : decode cX1_leastTenfold 74 = .ok (.iload 7, 2) := by decide +kernel
theorem dX1_leastTenfold_76 : decode cX1_leastTenfold 76 = .ok (.imul, 1) := by decide +kernel
theorem dX1_leastTenfold_77 : decode cX1_leastTenfold 77 = .ok (.aload_n 0, 1) := by decide +kernel
theorem dX1_leastTenfold_78 : decode cX1_leastTenfold 78 = .ok (.getfield 22, 3) := by decide +kernel
theorem dX1_leastTenfold_81 : decode cX1_leastTenfold 81 = .ok (.imul, 1) := by decide +kernel
theorem dX1_leastTenfold_82 : decode cX1_leastTenfold 82 = .ok (.iadd, 1) := by decide +kernel
theorem dX1_leastTenfold_83 : decode cX1_leastTenfold 83 = .ok (.istore 5, 2) := by decide +kernel
theorem dX1_leastTenfold_85 : decode cX1_leastTenfold 85 = .ok (.iinc 9 1, 3) := by decide +kernel
theorem dX1_leastTenfold_88 : decode cX1_leastTenfold 88 = .ok (.goto (-50), 3) := by decide +kernel
theorem dX1_leastTenfold_91 : decode cX1_leastTenfold 91 = .ok (.iinc 6 1, 3) := by decide +kernel
theorem dX1_leastTenfold_94 : decode cX1_leastTenfold 94 = .ok (.goto (-88), 3) := by decide +kernel
theorem dX1_leastTenfold_97 : decode cX1_leastTenfold 97 = .ok (.iload 5, 2) := by decide +kernel
theorem dX1_leastTenfold_99 : decode cX1_leastTenfold 99 = .ok (.ireturn, 1) := by decide +kernel
theorem zd_X1_leastTenfold : yX1_leastTenfold.cls ≠ "java/lang/invoke/MethodHandle" ∧ yX1_leastTenfold.cls ≠ "java/lang/invoke/VarHandle" ∧ (parseMethodDescriptor yX1_leastTenfold.desc).map (fun d => d.parameters.length) = some 4 := by decide +kernel
set_option maxHeartbeats 4000000 in
set_option maxRecDepth 100000 in
theorem zc_X1_leastTenfold (l : Launch) (D : va_G) (cI cZ : ClassId) (v : Nat) (ch : Int32) (tf : Int32) (a1 : Nat) (b1 : Nat) (g : Nat → Int32) (r : Nat) (ro : Nat) (rn : Nat) (rr : Nat) (rt : Int32) (fr : Int32) (pr : Int32) (n : Nat) (m : Nat) (od : Nat → Int32) (a : Nat) (b : Nat) (f : Nat → Int32) (p : Nat) (N : Nat) (hn : n ≤ 5) (hp : p < 5) (hN : N ≤ 3) : zI l yX1_leastTenfold cX1_leastTenfold 11 .int 5 114 D cI cZ [.ref v, .ref r, .ref a, .int (nI p), .int (nI N)] [(v, .inr (1, [.ref a1, .int ch, .int tf])), (a1, .inr (6, [.ref b1])), (b1, .inl (cI, 36, .inl g)), (r, .inr (3, [.ref ro, .ref rn, .ref rr, .int rt, .int fr, .int pr, .int (nI n), .int (nI m)])), (ro, .inl (cI, 4, .inl od)), (a, .inr (6, [.ref b])), (b, .inl (cI, 36, .inl f))] (fun (r : Int32) (u : Int32 × Int32 × (Nat → Int32)) => r = zls f od rt fr pr n p N N) (fun (u : Int32 × Int32 × (Nat → Int32)) => [(v, .inr (1, [.ref a1, .int u.1, .int u.2.1])), (a1, .inr (6, [.ref b1])), (b1, .inl (cI, 36, .inl u.2.2)), (r, .inr (3, [.ref ro, .ref rn, .ref rr, .int rt, .int fr, .int pr, .int (nI n), .int (nI m)])), (ro, .inl (cI, 4, .inl od)), (a, .inr (6, [.ref b])), (b, .inl (cI, 36, .inl f))]) := by
  refine zI_of (by decide) (Nat.le_of_ble_eq_true rfl) ?_
  intro pP eE sS mM aA bB mT cC A ls Z hP hD hS hl
  have hx := Z.1
  have hb := Z.2.1
  have hown := Z.2.2.2.2.2.1
  have hts := Z.2.2.2.2.1
  have Z : zAt pP sS mM aA mT cC D cI cZ A "SurpriseTax$Advice" cX1_leastTenfold 11 (some .int) := Z
  have hl : lv_has ls 11 [(0, .ref v), (1, .ref r), (2, .ref a), (3, .int (nI p)), (4, .int (nI N))] := hl
  obtain ⟨H, hH⟩ : ∃ H, H = sS.heap := ⟨_, rfl⟩
  have hP : va_P D vwCl [(v, .inr (1, [.ref a1, .int ch, .int tf])), (a1, .inr (6, [.ref b1])), (b1, .inl (cI, 36, .inl g)), (r, .inr (3, [.ref ro, .ref rn, .ref rr, .int rt, .int fr, .int pr, .int (nI n), .int (nI m)])), (ro, .inl (cI, 4, .inl od)), (a, .inr (6, [.ref b])), (b, .inl (cI, 36, .inl f))] H := by rw [hH]; exact hP
  have hS : va_S A sS.heap H [] := by rw [hH]; exact hS
  rw [← hH]
  clear hH
  obtain ⟨locs, hlo⟩ : ∃ q : List Loc, q = [] := ⟨_, rfl⟩
  rw [← hlo] at hS ⊢
  clear hlo
  refine lv_iconst (v := nI 0) hx hb dX1_leastTenfold_0 (by decide) ?_
  refine lv_istore (lv' := [(5, .int (nI 0)), (0, .ref v), (1, .ref r), (2, .ref a), (3, .int (nI p)), (4, .int (nI N))]) hx hb dX1_leastTenfold_1 hl (by decide) rfl (fun ls hl => ?_)
  refine lv_iconst (v := nI 0) hx hb dX1_leastTenfold_3 (by decide) ?_
  refine lv_istore (lv' := [(6, .int (nI 0)), (5, .int (nI 0)), (0, .ref v), (1, .ref r), (2, .ref a), (3, .int (nI p)), (4, .int (nI N))]) hx hb dX1_leastTenfold_4 hl (by decide) rfl (fun ls hl => ?_)
  have hl : lv_has ls 11 [(6, .int (nI 0)), (5, .int (nI 0)), (0, .ref v), (1, .ref r), (2, .ref a), (3, .int (nI p)), (4, .int (nI N))] := lv_sub hl [0, 1, 2, 3, 4, 5, 6] rfl
  have e_2 : nI 0 = zls f od rt fr pr n p N 0 := by (first | rfl | (simp []; done) | (simp_all []; done))
  have hl : lv_has ls 11 [(6, .int (nI 0)), (5, .int (zls f od rt fr pr n p N 0)), (0, .ref v), (1, .ref r), (2, .ref a), (3, .int (nI p)), (4, .int (nI N))] := Eq.subst (motive := fun zz_ => lv_has ls 11 [(6, .int (nI 0)), (5, .int zz_), (0, .ref v), (1, .ref r), (2, .ref a), (3, .int (nI p)), (4, .int (nI N))]) e_2 hl
  refine z_loopm (fun (x_ : Nat × (Nat → Int32) × Int32 × Int32) H locs ls => va_P D vwCl [(v, .inr (1, [.ref a1, .int x_.2.2.1, .int x_.2.2.2])), (a1, .inr (6, [.ref b1])), (b1, .inl (cI, 36, .inl x_.2.1)), (r, .inr (3, [.ref ro, .ref rn, .ref rr, .int rt, .int fr, .int pr, .int (nI n), .int (nI m)])), (ro, .inl (cI, 4, .inl od)), (a, .inr (6, [.ref b])), (b, .inl (cI, 36, .inl f))] H ∧ va_D A [(v, .inr (1, [.ref a1, .int x_.2.2.1, .int x_.2.2.2])), (a1, .inr (6, [.ref b1])), (b1, .inl (cI, 36, .inl x_.2.1)), (r, .inr (3, [.ref ro, .ref rn, .ref rr, .int rt, .int fr, .int pr, .int (nI n), .int (nI m)])), (ro, .inl (cI, 4, .inl od)), (a, .inr (6, [.ref b])), (b, .inl (cI, 36, .inl f))] ∧ va_S A sS.heap H locs ∧ lv_has ls 11 [(6, .int (nI x_.1)), (5, .int (zls f od rt fr pr n p N x_.1)), (0, .ref v), (1, .ref r), (2, .ref a), (3, .int (nI p)), (4, .int (nI N))] ∧ (x_.1 ≤ N)) (fun x_ => N - x_.1) (0, g, ch, tf) ⟨hP, hD, hS, hl, (by first | assumption | omega)⟩ (fun x_ ih_1 H locs ls hI => ?_)
  obtain ⟨d, g9, ch9, tf9⟩ := x_
  obtain ⟨hP, hD, hS, hl, hv6_0⟩ := hI
  dsimp only at ih_1 hv6_0
  have hv6_0 : d ≤ N := hv6_0
  have hP : va_P D vwCl [(v, .inr (1, [.ref a1, .int ch9, .int tf9])), (a1, .inr (6, [.ref b1])), (b1, .inl (cI, 36, .inl g9)), (r, .inr (3, [.ref ro, .ref rn, .ref rr, .int rt, .int fr, .int pr, .int (nI n), .int (nI m)])), (ro, .inl (cI, 4, .inl od)), (a, .inr (6, [.ref b])), (b, .inl (cI, 36, .inl f))] H := hP
  have hD : va_D A [(v, .inr (1, [.ref a1, .int ch9, .int tf9])), (a1, .inr (6, [.ref b1])), (b1, .inl (cI, 36, .inl g9)), (r, .inr (3, [.ref ro, .ref rn, .ref rr, .int rt, .int fr, .int pr, .int (nI n), .int (nI m)])), (ro, .inl (cI, 4, .inl od)), (a, .inr (6, [.ref b])), (b, .inl (cI, 36, .inl f))] := hD
  have hl : lv_has ls 11 [(6, .int (nI d)), (5, .int (zls f od rt fr pr n p N d)), (0, .ref v), (1, .ref r), (2, .ref a), (3, .int (nI p)), (4, .int (nI N))] := hl
  refine lv_iload hx hb dX1_leastTenfold_6 (lv_at hl 0 rfl) ?_
  refine lv_iload hx hb dX1_leastTenfold_8 (lv_at hl 6 rfl) ?_
  refine lv_icmp_ge (tgt := 97) hx hb dX1_leastTenfold_10 (by decide) (fun c_3 => ?_) (fun c_3 => ?_)
  · have c_3 := zle (i := N) (j := d) (by omega) (by omega) c_3
    have hE_ : N = d := by omega
    subst hE_
    refine lv_iload hx hb dX1_leastTenfold_97 (lv_at hl 1 rfl) ?_
    exact z_iret Z (ch9, tf9, g9) rfl hP hS dX1_leastTenfold_99
  · have c_3 := znle (i := N) (j := d) (by omega) (by omega) c_3
    refine lv_bipush (v := nI 10) hx hb dX1_leastTenfold_13 (by decide) ?_
    refine lv_iload hx hb dX1_leastTenfold_15 (lv_at hl 6 rfl) ?_
    refine lv_iconst (v := nI 1) hx hb dX1_leastTenfold_17 (by decide) ?_
    refine lv_isub hx hb dX1_leastTenfold_18 ?_
    refine z_top (y := nI (N - 1)) (z_sub' (by omega)) ?_
    refine lv_iload hx hb dX1_leastTenfold_19 (lv_at hl 0 rfl) ?_
    refine lv_isub hx hb dX1_leastTenfold_21 ?_
    refine z_top (y := nI ((N - 1) - d)) (z_sub' (by omega)) ?_
    refine z_callNi (As := [.int (nI 10), .int (nI ((N - 1) - d))]) (rest := []) Z hP hD hS hl.1 (zc_X8_power l D cI cZ 10 ((N - 1) - d) (by omega)) zn27 zm468 zm30 zm469 zd_X8_power ⟨Nat.le_of_ble_eq_true rfl, Nat.le_of_ble_eq_true rfl⟩ ⟨Nat.zero_le _, Nat.zero_le _⟩ [] rfl (by decide) (fun _ => rfl) rfl (Nat.le_of_ble_eq_true rfl) rfl dX1_leastTenfold_22 (fun r_4 u H locs h_5 hP hD hS => ?_)
    have hP : va_P D vwCl [(v, .inr (1, [.ref a1, .int ch9, .int tf9])), (a1, .inr (6, [.ref b1])), (b1, .inl (cI, 36, .inl g9)), (r, .inr (3, [.ref ro, .ref rn, .ref rr, .int rt, .int fr, .int pr, .int (nI n), .int (nI m)])), (ro, .inl (cI, 4, .inl od)), (a, .inr (6, [.ref b])), (b, .inl (cI, 36, .inl f))] H := hP
    have hD : va_D A [(v, .inr (1, [.ref a1, .int ch9, .int tf9])), (a1, .inr (6, [.ref b1])), (b1, .inl (cI, 36, .inl g9)), (r, .inr (3, [.ref ro, .ref rn, .ref rr, .int rt, .int fr, .int pr, .int (nI n), .int (nI m)])), (ro, .inl (cI, 4, .inl od)), (a, .inr (6, [.ref b])), (b, .inl (cI, 36, .inl f))] := hD
    have h_5 : r_4 = nI (10 ^ ((N - 1) - d)) := h_5
    subst h_5
    refine lv_istore (lv' := [(7, .int (nI (10 ^ ((N - 1) - d)))), (6, .int (nI d)), (5, .int (zls f od rt fr pr n p N d)), (0, .ref v), (1, .ref r), (2, .ref a), (3, .int (nI p)), (4, .int (nI N))]) hx hb dX1_leastTenfold_25 hl (by decide) rfl (fun ls hl => ?_)
    refine lv_iconst (v := nI 4) hx hb dX1_leastTenfold_27 (by decide) ?_
    refine lv_iload hx hb dX1_leastTenfold_28 (lv_at hl 1 rfl) ?_
    refine z_callNi (As := [.int (nI 4), .int (nI d)]) (rest := []) Z hP hD hS hl.1 (zc_X8_power l D cI cZ 4 d (by omega)) zn27 zm468 zm30 zm469 zd_X8_power ⟨Nat.le_of_ble_eq_true rfl, Nat.le_of_ble_eq_true rfl⟩ ⟨Nat.zero_le _, Nat.zero_le _⟩ [] rfl (by decide) (fun _ => rfl) rfl (Nat.le_of_ble_eq_true rfl) rfl dX1_leastTenfold_30 (fun r_6 u H locs h_7 hP hD hS => ?_)
    have hP : va_P D vwCl [(v, .inr (1, [.ref a1, .int ch9, .int tf9])), (a1, .inr (6, [.ref b1])), (b1, .inl (cI, 36, .inl g9)), (r, .inr (3, [.ref ro, .ref rn, .ref rr, .int rt, .int fr, .int pr, .int (nI n), .int (nI m)])), (ro, .inl (cI, 4, .inl od)), (a, .inr (6, [.ref b])), (b, .inl (cI, 36, .inl f))] H := hP
    have hD : va_D A [(v, .inr (1, [.ref a1, .int ch9, .int tf9])), (a1, .inr (6, [.ref b1])), (b1, .inl (cI, 36, .inl g9)), (r, .inr (3, [.ref ro, .ref rn, .ref rr, .int rt, .int fr, .int pr, .int (nI n), .int (nI m)])), (ro, .inl (cI, 4, .inl od)), (a, .inr (6, [.ref b])), (b, .inl (cI, 36, .inl f))] := hD
    have h_7 : r_6 = nI (4 ^ d) := h_7
    subst h_7
    refine lv_istore (lv' := [(8, .int (nI (4 ^ d))), (7, .int (nI (10 ^ ((N - 1) - d)))), (6, .int (nI d)), (5, .int (zls f od rt fr pr n p N d)), (0, .ref v), (1, .ref r), (2, .ref a), (3, .int (nI p)), (4, .int (nI N))]) hx hb dX1_leastTenfold_33 hl (by decide) rfl (fun ls hl => ?_)
    have h4d : 4 ^ d ≤ 64 := (Nat.pow_le_pow_right (show 0 < 4 by decide) (show d ≤ 3 by omega) : 4 ^ d ≤ 4 ^ 3)
    refine lv_iconst (v := nI 0) hx hb dX1_leastTenfold_35 (by decide) ?_
    refine lv_istore (lv' := [(9, .int (nI 0)), (8, .int (nI (4 ^ d))), (7, .int (nI (10 ^ ((N - 1) - d)))), (6, .int (nI d)), (5, .int (zls f od rt fr pr n p N d)), (0, .ref v), (1, .ref r), (2, .ref a), (3, .int (nI p)), (4, .int (nI N))]) hx hb dX1_leastTenfold_36 hl (by decide) rfl (fun ls hl => ?_)
    have hl : lv_has ls 11 [(9, .int (nI 0)), (8, .int (nI (4 ^ d))), (7, .int (nI (10 ^ ((N - 1) - d)))), (6, .int (nI d)), (5, .int (zls f od rt fr pr n p N d)), (0, .ref v), (1, .ref r), (2, .ref a), (3, .int (nI p)), (4, .int (nI N))] := lv_sub hl [0, 1, 2, 3, 4, 5, 6, 7, 8, 9] rfl
    have e_9 : zls f od rt fr pr n p N d = zlr f od rt fr pr n p N d (zls f od rt fr pr n p N d) 0 := by (first | rfl | (simp [c_3]; done) | (simp_all []; done))
    have hl : lv_has ls 11 [(9, .int (nI 0)), (8, .int (nI (4 ^ d))), (7, .int (nI (10 ^ ((N - 1) - d)))), (6, .int (nI d)), (5, .int (zlr f od rt fr pr n p N d (zls f od rt fr pr n p N d) 0)), (0, .ref v), (1, .ref r), (2, .ref a), (3, .int (nI p)), (4, .int (nI N))] := Eq.subst (motive := fun zz_ => lv_has ls 11 [(9, .int (nI 0)), (8, .int (nI (4 ^ d))), (7, .int (nI (10 ^ ((N - 1) - d)))), (6, .int (nI d)), (5, .int zz_), (0, .ref v), (1, .ref r), (2, .ref a), (3, .int (nI p)), (4, .int (nI N))]) e_9 hl
    refine z_loopm (fun (x_ : Nat × (Nat → Int32) × Int32 × Int32) H locs ls => va_P D vwCl [(v, .inr (1, [.ref a1, .int x_.2.2.1, .int x_.2.2.2])), (a1, .inr (6, [.ref b1])), (b1, .inl (cI, 36, .inl x_.2.1)), (r, .inr (3, [.ref ro, .ref rn, .ref rr, .int rt, .int fr, .int pr, .int (nI n), .int (nI m)])), (ro, .inl (cI, 4, .inl od)), (a, .inr (6, [.ref b])), (b, .inl (cI, 36, .inl f))] H ∧ va_D A [(v, .inr (1, [.ref a1, .int x_.2.2.1, .int x_.2.2.2])), (a1, .inr (6, [.ref b1])), (b1, .inl (cI, 36, .inl x_.2.1)), (r, .inr (3, [.ref ro, .ref rn, .ref rr, .int rt, .int fr, .int pr, .int (nI n), .int (nI m)])), (ro, .inl (cI, 4, .inl od)), (a, .inr (6, [.ref b])), (b, .inl (cI, 36, .inl f))] ∧ va_S A sS.heap H locs ∧ lv_has ls 11 [(9, .int (nI x_.1)), (8, .int (nI (4 ^ d))), (7, .int (nI (10 ^ ((N - 1) - d)))), (6, .int (nI d)), (5, .int (zlr f od rt fr pr n p N d (zls f od rt fr pr n p N d) x_.1)), (0, .ref v), (1, .ref r), (2, .ref a), (3, .int (nI p)), (4, .int (nI N))] ∧ (x_.1 ≤ 4 ^ d)) (fun x_ => 4 ^ d - x_.1) (0, g9, ch9, tf9) ⟨hP, hD, hS, hl, (by exact Nat.zero_le _)⟩ (fun x_ ih_8 H locs ls hI => ?_)
    obtain ⟨w, g8, ch8, tf8⟩ := x_
    obtain ⟨hP, hD, hS, hl, hv38_0⟩ := hI
    dsimp only at ih_8 hv38_0
    have hv38_0 : w ≤ 4 ^ d := hv38_0
    have hP : va_P D vwCl [(v, .inr (1, [.ref a1, .int ch8, .int tf8])), (a1, .inr (6, [.ref b1])), (b1, .inl (cI, 36, .inl g8)), (r, .inr (3, [.ref ro, .ref rn, .ref rr, .int rt, .int fr, .int pr, .int (nI n), .int (nI m)])), (ro, .inl (cI, 4, .inl od)), (a, .inr (6, [.ref b])), (b, .inl (cI, 36, .inl f))] H := hP
    have hD : va_D A [(v, .inr (1, [.ref a1, .int ch8, .int tf8])), (a1, .inr (6, [.ref b1])), (b1, .inl (cI, 36, .inl g8)), (r, .inr (3, [.ref ro, .ref rn, .ref rr, .int rt, .int fr, .int pr, .int (nI n), .int (nI m)])), (ro, .inl (cI, 4, .inl od)), (a, .inr (6, [.ref b])), (b, .inl (cI, 36, .inl f))] := hD
    have hl : lv_has ls 11 [(9, .int (nI w)), (8, .int (nI (4 ^ d))), (7, .int (nI (10 ^ ((N - 1) - d)))), (6, .int (nI d)), (5, .int (zlr f od rt fr pr n p N d (zls f od rt fr pr n p N d) w)), (0, .ref v), (1, .ref r), (2, .ref a), (3, .int (nI p)), (4, .int (nI N))] := hl
    refine lv_iload hx hb dX1_leastTenfold_38 (lv_at hl 0 rfl) ?_
    refine lv_iload hx hb dX1_leastTenfold_40 (lv_at hl 1 rfl) ?_
    refine lv_icmp_ge (tgt := 91) hx hb dX1_leastTenfold_42 (by decide) (fun c_10 => ?_) (fun c_10 => ?_)
    · have c_10 := zle (i := 4 ^ d) (j := w) (by omega) (by omega) c_10
      have hE_ : 4 ^ d = w := by omega
      subst hE_
      refine lv_iinc (v := nI (d + 1)) (lv' := [(6, .int (nI (d + 1))), (9, .int (nI (4 ^ d))), (8, .int (nI (4 ^ d))), (7, .int (nI (10 ^ ((N - 1) - d)))), (5, .int (zlr f od rt fr pr n p N d (zls f od rt fr pr n p N d) (4 ^ d))), (0, .ref v), (1, .ref r), (2, .ref a), (3, .int (nI p)), (4, .int (nI N))]) hx hb dX1_leastTenfold_91 hl (k := 3) rfl (z_inc _ 1) (by decide) rfl (fun ls hl => ?_)
      refine lv_goto (tgt := 6) hx hb dX1_leastTenfold_94 (by decide) ?_
      have hl : lv_has ls 11 [(6, .int (nI (d + 1))), (5, .int (zlr f od rt fr pr n p N d (zls f od rt fr pr n p N d) (4 ^ d))), (0, .ref v), (1, .ref r), (2, .ref a), (3, .int (nI p)), (4, .int (nI N))] := lv_sub hl [0, 4, 5, 6, 7, 8, 9] rfl
      have e_11 : zlr f od rt fr pr n p N d (zls f od rt fr pr n p N d) (4 ^ d) = zls f od rt fr pr n p N (d + 1) := by (first | rfl | (simp [c_3, c_10]; done) | (simp_all []; done))
      have hl : lv_has ls 11 [(6, .int (nI (d + 1))), (5, .int (zls f od rt fr pr n p N (d + 1))), (0, .ref v), (1, .ref r), (2, .ref a), (3, .int (nI p)), (4, .int (nI N))] := Eq.subst (motive := fun zz_ => lv_has ls 11 [(6, .int (nI (d + 1))), (5, .int zz_), (0, .ref v), (1, .ref r), (2, .ref a), (3, .int (nI p)), (4, .int (nI N))]) e_11 hl
      exact ih_1 (d + 1, g8, ch8, tf8) _ _ _ (by omega) ⟨hP, hD, hS, hl, (by first | assumption | omega)⟩
    · have c_10 := znle (i := 4 ^ d) (j := w) (by omega) (by omega) c_10
      refine lv_aload_n hx hb dX1_leastTenfold_45 rfl (lv_at hl 5 rfl) ?_
      refine z_get (ci := 1) (v := .ref a1) Z zin1 hP 0 rfl rfl 0 (by decide) zm157 rfl rfl dX1_leastTenfold_46 ?_
      refine lv_aload_n hx hb dX1_leastTenfold_49 rfl (lv_at hl 7 rfl) ?_
      refine z_callVv (As := [.ref a]) (rest := []) (ci := 6) (k0 := 0) Z hP hD hS hl.1 (zc_X6_copyFrom l D cI cZ a1 b1 g8 a b f ) zm450 zm451 zm452 zm33 zm453 ⟨rfl, zd_X6_copyFrom⟩ ⟨Nat.le_of_ble_eq_true rfl, Nat.le_of_ble_eq_true rfl⟩ ⟨Nat.zero_le _, Nat.zero_le _⟩ [1, 2, 5, 6] rfl (by decide) rfl rfl rfl (fun _ => rfl) rfl (Nat.le_of_ble_eq_true rfl) rfl dX1_leastTenfold_50 (fun u H locs h_13 hP hD hS => ?_)
      have hP : va_P D vwCl [(v, .inr (1, [.ref a1, .int ch8, .int tf8])), (a1, .inr (6, [.ref b1])), (b1, .inl (cI, 36, .inl f)), (r, .inr (3, [.ref ro, .ref rn, .ref rr, .int rt, .int fr, .int pr, .int (nI n), .int (nI m)])), (ro, .inl (cI, 4, .inl od)), (a, .inr (6, [.ref b])), (b, .inl (cI, 36, .inl f))] H := hP
      have hD : va_D A [(v, .inr (1, [.ref a1, .int ch8, .int tf8])), (a1, .inr (6, [.ref b1])), (b1, .inl (cI, 36, .inl f)), (r, .inr (3, [.ref ro, .ref rn, .ref rr, .int rt, .int fr, .int pr, .int (nI n), .int (nI m)])), (ro, .inl (cI, 4, .inl od)), (a, .inr (6, [.ref b])), (b, .inl (cI, 36, .inl f))] := hD
      refine lv_aload_n hx hb dX1_leastTenfold_53 rfl (lv_at hl 5 rfl) ?_
      refine lv_aload_n hx hb dX1_leastTenfold_54 rfl (lv_at hl 6 rfl) ?_
      refine lv_iload hx hb dX1_leastTenfold_55 (lv_at hl 3 rfl) ?_
      refine lv_iload hx hb dX1_leastTenfold_57 (lv_at hl 0 rfl) ?_
      refine z_callVi (As := [.ref r, .int (nI d), .int (nI w)]) (rest := []) (ci := 1) (k0 := 0) Z hP hD hS hl.1 (zc_X1_playRow l D cI cZ v ch8 tf8 a1 b1 f r ro rn rr rt fr pr n m od d w (by omega) (by omega) (by omega)) zm470 zm471 zm8 zm37 zm472 ⟨rfl, zd_X1_playRow⟩ ⟨Nat.le_of_ble_eq_true rfl, Nat.le_of_ble_eq_true rfl⟩ ⟨Nat.zero_le _, Nat.zero_le _⟩ [0, 1, 2, 3, 4] rfl (by decide) rfl rfl rfl (fun _ => rfl) rfl (Nat.le_of_ble_eq_true rfl) rfl dX1_leastTenfold_59 (fun r_14 u H locs h_15 hP hD hS => ?_)
      have hP : va_P D vwCl [(v, .inr (1, [.ref a1, .int ch8, .int tf8])), (a1, .inr (6, [.ref b1])), (b1, .inl (cI, 36, .inl (zpg f rt fr n d w d))), (r, .inr (3, [.ref ro, .ref rn, .ref rr, .int rt, .int fr, .int pr, .int (nI n), .int (nI m)])), (ro, .inl (cI, 4, .inl od)), (a, .inr (6, [.ref b])), (b, .inl (cI, 36, .inl f))] H := hP
      have hD : va_D A [(v, .inr (1, [.ref a1, .int ch8, .int tf8])), (a1, .inr (6, [.ref b1])), (b1, .inl (cI, 36, .inl (zpg f rt fr n d w d))), (r, .inr (3, [.ref ro, .ref rn, .ref rr, .int rt, .int fr, .int pr, .int (nI n), .int (nI m)])), (ro, .inl (cI, 4, .inl od)), (a, .inr (6, [.ref b])), (b, .inl (cI, 36, .inl f))] := hD
      have h_15 : r_14 = zpw od d w d := h_15
      subst h_15
      refine lv_istore (lv' := [(10, .int (zpw od d w d)), (9, .int (nI w)), (8, .int (nI (4 ^ d))), (7, .int (nI (10 ^ ((N - 1) - d)))), (6, .int (nI d)), (5, .int (zlr f od rt fr pr n p N d (zls f od rt fr pr n p N d) w)), (0, .ref v), (1, .ref r), (2, .ref a), (3, .int (nI p)), (4, .int (nI N))]) hx hb dX1_leastTenfold_62 hl (by decide) rfl (fun ls hl => ?_)
      refine lv_aload_n hx hb dX1_leastTenfold_64 rfl (lv_at hl 6 rfl) ?_
      refine lv_aload_n hx hb dX1_leastTenfold_65 rfl (lv_at hl 7 rfl) ?_
      refine lv_iload_n hx hb dX1_leastTenfold_66 rfl (lv_at hl 9 rfl) ?_
      refine z_callVv (As := [.ref r, .int (nI p)]) (rest := []) (ci := 1) (k0 := 0) Z hP hD hS hl.1 (zc_X1_choose l D cI cZ v ch8 tf8 a1 b1 (zpg f rt fr n d w d) r ro rn rr rt fr pr n m od p (by omega)) zm454 zm455 zm7 zm37 zm456 ⟨rfl, zd_X1_choose⟩ ⟨Nat.le_of_ble_eq_true rfl, Nat.le_of_ble_eq_true rfl⟩ ⟨Nat.zero_le _, Nat.zero_le _⟩ [0, 1, 2, 3, 4] rfl (by decide) rfl rfl rfl (fun _ => rfl) rfl (Nat.le_of_ble_eq_true rfl) rfl dX1_leastTenfold_67 (fun u H locs h_17 hP hD hS => ?_)
      have hP : va_P D vwCl [(v, .inr (1, [.ref a1, .int ((zchF (zpg f rt fr n d w d) od rt fr pr p).1), .int ((zchF (zpg f rt fr n d w d) od rt fr pr p).2)])), (a1, .inr (6, [.ref b1])), (b1, .inl (cI, 36, .inl (if (zpg f rt fr n d w d) (25 + p) = -9 then zchg (zpg f rt fr n d w d) p 4 else (zpg f rt fr n d w d)))), (r, .inr (3, [.ref ro, .ref rn, .ref rr, .int rt, .int fr, .int pr, .int (nI n), .int (nI m)])), (ro, .inl (cI, 4, .inl od)), (a, .inr (6, [.ref b])), (b, .inl (cI, 36, .inl f))] H := hP
      have hD : va_D A [(v, .inr (1, [.ref a1, .int ((zchF (zpg f rt fr n d w d) od rt fr pr p).1), .int ((zchF (zpg f rt fr n d w d) od rt fr pr p).2)])), (a1, .inr (6, [.ref b1])), (b1, .inl (cI, 36, .inl (if (zpg f rt fr n d w d) (25 + p) = -9 then zchg (zpg f rt fr n d w d) p 4 else (zpg f rt fr n d w d)))), (r, .inr (3, [.ref ro, .ref rn, .ref rr, .int rt, .int fr, .int pr, .int (nI n), .int (nI m)])), (ro, .inl (cI, 4, .inl od)), (a, .inr (6, [.ref b])), (b, .inl (cI, 36, .inl f))] := hD
      refine lv_iload hx hb dX1_leastTenfold_70 (lv_at hl 5 rfl) ?_
      refine lv_iload hx hb dX1_leastTenfold_72 (lv_at hl 0 rfl) ?_
      refine lv_iload hx hb dX1_leastTenfold_74 (lv_at hl 3 rfl) ?_
      refine lv_imul hx hb dX1_leastTenfold_76 ?_
      refine z_top (y := (zpw od d w d) * (nI (10 ^ ((N - 1) - d)))) rfl ?_
      refine lv_aload_n hx hb dX1_leastTenfold_77 rfl (lv_at hl 6 rfl) ?_
      refine z_get (ci := 1) (v := .int ((zchF (zpg f rt fr n d w d) od rt fr pr p).2)) Z zin1 hP 0 rfl rfl 2 (by decide) zm159 rfl rfl dX1_leastTenfold_78 ?_
      refine lv_imul hx hb dX1_leastTenfold_81 ?_
      refine z_top (y := ((zpw od d w d) * (nI (10 ^ ((N - 1) - d)))) * ((zchF (zpg f rt fr n d w d) od rt fr pr p).2)) rfl ?_
      refine lv_iadd hx hb dX1_leastTenfold_82 ?_
      refine z_top (y := (zlr f od rt fr pr n p N d (zls f od rt fr pr n p N d) w) + (((zpw od d w d) * (nI (10 ^ ((N - 1) - d)))) * ((zchF (zpg f rt fr n d w d) od rt fr pr p).2))) rfl ?_
      refine lv_istore (lv' := [(5, .int ((zlr f od rt fr pr n p N d (zls f od rt fr pr n p N d) w) + (((zpw od d w d) * (nI (10 ^ ((N - 1) - d)))) * ((zchF (zpg f rt fr n d w d) od rt fr pr p).2)))), (10, .int (zpw od d w d)), (9, .int (nI w)), (8, .int (nI (4 ^ d))), (7, .int (nI (10 ^ ((N - 1) - d)))), (6, .int (nI d)), (0, .ref v), (1, .ref r), (2, .ref a), (3, .int (nI p)), (4, .int (nI N))]) hx hb dX1_leastTenfold_83 hl (by decide) rfl (fun ls hl => ?_)
      refine lv_iinc (v := nI (w + 1)) (lv' := [(9, .int (nI (w + 1))), (5, .int ((zlr f od rt fr pr n p N d (zls f od rt fr pr n p N d) w) + (((zpw od d w d) * (nI (10 ^ ((N - 1) - d)))) * ((zchF (zpg f rt fr n d w d) od rt fr pr p).2)))), (10, .int (zpw od d w d)), (8, .int (nI (4 ^ d))), (7, .int (nI (10 ^ ((N - 1) - d)))), (6, .int (nI d)), (0, .ref v), (1, .ref r), (2, .ref a), (3, .int (nI p)), (4, .int (nI N))]) hx hb dX1_leastTenfold_85 hl (k := 2) rfl (z_inc _ 1) (by decide) rfl (fun ls hl => ?_)
      refine lv_goto (tgt := 38) hx hb dX1_leastTenfold_88 (by decide) ?_
      have hl : lv_has ls 11 [(9, .int (nI (w + 1))), (8, .int (nI (4 ^ d))), (7, .int (nI (10 ^ ((N - 1) - d)))), (6, .int (nI d)), (5, .int ((zlr f od rt fr pr n p N d (zls f od rt fr pr n p N d) w) + (((zpw od d w d) * (nI (10 ^ ((N - 1) - d)))) * ((zchF (zpg f rt fr n d w d) od rt fr pr p).2)))), (0, .ref v), (1, .ref r), (2, .ref a), (3, .int (nI p)), (4, .int (nI N))] := lv_sub hl [0, 3, 4, 5, 1, 6, 7, 8, 9, 10] rfl
      have e_18 : (zlr f od rt fr pr n p N d (zls f od rt fr pr n p N d) w) + (((zpw od d w d) * (nI (10 ^ ((N - 1) - d)))) * ((zchF (zpg f rt fr n d w d) od rt fr pr p).2)) = zlr f od rt fr pr n p N d (zls f od rt fr pr n p N d) (w + 1) := by (first | rfl | (simp [c_3, c_10]; done) | (simp_all []; done))
      have hl : lv_has ls 11 [(9, .int (nI (w + 1))), (8, .int (nI (4 ^ d))), (7, .int (nI (10 ^ ((N - 1) - d)))), (6, .int (nI d)), (5, .int (zlr f od rt fr pr n p N d (zls f od rt fr pr n p N d) (w + 1))), (0, .ref v), (1, .ref r), (2, .ref a), (3, .int (nI p)), (4, .int (nI N))] := Eq.subst (motive := fun zz_ => lv_has ls 11 [(9, .int (nI (w + 1))), (8, .int (nI (4 ^ d))), (7, .int (nI (10 ^ ((N - 1) - d)))), (6, .int (nI d)), (5, .int zz_), (0, .ref v), (1, .ref r), (2, .ref a), (3, .int (nI p)), (4, .int (nI N))]) e_18 hl
      exact ih_8 (w + 1, if (zpg f rt fr n d w d) (25 + p) = -9 then zchg (zpg f rt fr n d w d) p 4 else (zpg f rt fr n d w d), (zchF (zpg f rt fr n d w d) od rt fr pr p).1, (zchF (zpg f rt fr n d w d) od rt fr pr p).2) _ _ _ (by omega) ⟨hP, hD, hS, hl, (by first | assumption | omega)⟩

theorem dX2_begin_0 : decode cX2_begin 0 = .ok (.aload_n 0, 1) := by decide +kernel
theorem dX2_begin_1 : decode cX2_begin 1 = .ok (.getfield 12, 3) := by decide +kernel
theorem dX2_begin_4 : decode cX2_begin 4 = .ok (.aload_n 1, 1) := by decide +kernel
theorem dX2_begin_5 : decode cX2_begin 5 = .ok (.invokevirtual 22, 3) := by decide +kernel
theorem dX2_begin_8 : decode cX2_begin 8 = .ok (.return_, 1) := by decide +kernel
theorem zd_X2_begin : yX2_begin.cls ≠ "java/lang/invoke/MethodHandle" ∧ yX2_begin.cls ≠ "java/lang/invoke/VarHandle" ∧ (parseMethodDescriptor yX2_begin.desc).map (fun d => d.parameters.length) = some 1 := by decide +kernel
set_option maxHeartbeats 4000000 in
set_option maxRecDepth 100000 in
theorem zc_X2_begin (l : Launch) (D : va_G) (cI cZ : ClassId) (h : Nat) (jr : Int32) (a1 : Nat) (b1 : Nat) (g : Nat → Int32) (a : Nat) (b : Nat) (f : Nat → Int32) : zV l yX2_begin cX2_begin 2 2 39 D cI cZ [.ref h, .ref a] [(h, .inr (2, [.ref a1, .int jr])), (a1, .inr (6, [.ref b1])), (b1, .inl (cI, 36, .inl g)), (a, .inr (6, [.ref b])), (b, .inl (cI, 36, .inl f))] (fun (u : Unit) => True) (fun (u : Unit) => [(h, .inr (2, [.ref a1, .int jr])), (a1, .inr (6, [.ref b1])), (b1, .inl (cI, 36, .inl f)), (a, .inr (6, [.ref b])), (b, .inl (cI, 36, .inl f))]) := by
  refine zV_of (by decide) (Nat.le_of_ble_eq_true rfl) ?_
  intro pP eE sS mM aA bB mT cC A ls Z hP hD hS hl
  have hx := Z.1
  have hb := Z.2.1
  have hown := Z.2.2.2.2.2.1
  have hts := Z.2.2.2.2.1
  have Z : zAt pP sS mM aA mT cC D cI cZ A "SurpriseTax$Foresight" cX2_begin 2 none := Z
  have hl : lv_has ls 2 [(0, .ref h), (1, .ref a)] := hl
  obtain ⟨H, hH⟩ : ∃ H, H = sS.heap := ⟨_, rfl⟩
  have hP : va_P D vwCl [(h, .inr (2, [.ref a1, .int jr])), (a1, .inr (6, [.ref b1])), (b1, .inl (cI, 36, .inl g)), (a, .inr (6, [.ref b])), (b, .inl (cI, 36, .inl f))] H := by rw [hH]; exact hP
  have hS : va_S A sS.heap H [] := by rw [hH]; exact hS
  rw [← hH]
  clear hH
  obtain ⟨locs, hlo⟩ : ∃ q : List Loc, q = [] := ⟨_, rfl⟩
  rw [← hlo] at hS ⊢
  clear hlo
  refine lv_aload_n hx hb dX2_begin_0 rfl (lv_at hl 0 rfl) ?_
  refine z_get (ci := 2) (v := .ref a1) Z zin2 hP 0 rfl rfl 0 (by decide) zm170 rfl rfl dX2_begin_1 ?_
  refine lv_aload_n hx hb dX2_begin_4 rfl (lv_at hl 1 rfl) ?_
  refine z_callVv (As := [.ref a]) (rest := []) (ci := 6) (k0 := 0) Z hP hD hS hl.1 (zc_X6_copyFrom l D cI cZ a1 b1 g a b f ) zm485 zm451 zm452 zm33 zm453 ⟨rfl, zd_X6_copyFrom⟩ ⟨Nat.le_of_ble_eq_true rfl, Nat.le_of_ble_eq_true rfl⟩ ⟨Nat.zero_le _, Nat.zero_le _⟩ [1, 2, 3, 4] rfl (by decide) rfl rfl rfl (fun _ => rfl) rfl (Nat.le_of_ble_eq_true rfl) rfl dX2_begin_5 (fun u H locs h_2 hP hD hS => ?_)
  have hP : va_P D vwCl [(h, .inr (2, [.ref a1, .int jr])), (a1, .inr (6, [.ref b1])), (b1, .inl (cI, 36, .inl f)), (a, .inr (6, [.ref b])), (b, .inl (cI, 36, .inl f))] H := hP
  have hD : va_D A [(h, .inr (2, [.ref a1, .int jr])), (a1, .inr (6, [.ref b1])), (b1, .inl (cI, 36, .inl f)), (a, .inr (6, [.ref b])), (b, .inl (cI, 36, .inl f))] := hD
  exact z_vret Z () trivial hP hS dX2_begin_8

theorem dX2_play_0 : decode cX2_play 0 = .ok (.aload_n 1, 1) := by decide +kernel
theorem dX2_play_1 : decode cX2_play 1 = .ok (.aload_n 0, 1) := by decide +kernel
theorem dX2_play_2 : decode cX2_play 2 = .ok (.getfield 12, 3) := by decide +kernel
theorem dX2_play_5 : decode cX2_play 5 = .ok (.iload_n 2, 1) := by decide +kernel
theorem dX2_play_6 : decode cX2_play 6 = .ok (.invokevirtual 26, 3) := by decide +kernel
theorem dX2_play_9 : decode cX2_play 9 = .ok (.pop, 1) := by decide +kernel
theorem dX2_play_10 : decode cX2_play 10 = .ok (.return_, 1) := by decide +kernel
theorem zd_X2_play : yX2_play.cls ≠ "java/lang/invoke/MethodHandle" ∧ yX2_play.cls ≠ "java/lang/invoke/VarHandle" ∧ (parseMethodDescriptor yX2_play.desc).map (fun d => d.parameters.length) = some 2 := by decide +kernel
set_option maxHeartbeats 4000000 in
set_option maxRecDepth 100000 in
theorem zc_X2_play (l : Launch) (D : va_G) (cI cZ : ClassId) (h : Nat) (jr : Int32) (a1 : Nat) (b1 : Nat) (g : Nat → Int32) (r : Nat) (ro : Nat) (rn : Nat) (rr : Nat) (rt : Int32) (fr : Int32) (pr : Int32) (n : Nat) (m : Nat) (k : Nat) (hn : n ≤ 5) (hk : k < 4) : zV l yX2_play cX2_play 3 4 88 D cI cZ [.ref h, .ref r, .int (nI k)] [(h, .inr (2, [.ref a1, .int jr])), (a1, .inr (6, [.ref b1])), (b1, .inl (cI, 36, .inl g)), (r, .inr (3, [.ref ro, .ref rn, .ref rr, .int rt, .int fr, .int pr, .int (nI n), .int (nI m)]))] (fun (u : Unit) => True) (fun (u : Unit) => [(h, .inr (2, [.ref a1, .int jr])), (a1, .inr (6, [.ref b1])), (b1, .inl (cI, 36, .inl (zcome g rt fr n k))), (r, .inr (3, [.ref ro, .ref rn, .ref rr, .int rt, .int fr, .int pr, .int (nI n), .int (nI m)]))]) := by
  refine zV_of (by decide) (Nat.le_of_ble_eq_true rfl) ?_
  intro pP eE sS mM aA bB mT cC A ls Z hP hD hS hl
  have hx := Z.1
  have hb := Z.2.1
  have hown := Z.2.2.2.2.2.1
  have hts := Z.2.2.2.2.1
  have Z : zAt pP sS mM aA mT cC D cI cZ A "SurpriseTax$Foresight" cX2_play 3 none := Z
  have hl : lv_has ls 3 [(0, .ref h), (1, .ref r), (2, .int (nI k))] := hl
  obtain ⟨H, hH⟩ : ∃ H, H = sS.heap := ⟨_, rfl⟩
  have hP : va_P D vwCl [(h, .inr (2, [.ref a1, .int jr])), (a1, .inr (6, [.ref b1])), (b1, .inl (cI, 36, .inl g)), (r, .inr (3, [.ref ro, .ref rn, .ref rr, .int rt, .int fr, .int pr, .int (nI n), .int (nI m)]))] H := by rw [hH]; exact hP
  have hS : va_S A sS.heap H [] := by rw [hH]; exact hS
  rw [← hH]
  clear hH
  obtain ⟨locs, hlo⟩ : ∃ q : List Loc, q = [] := ⟨_, rfl⟩
  rw [← hlo] at hS ⊢
  clear hlo
  refine lv_aload_n hx hb dX2_play_0 rfl (lv_at hl 1 rfl) ?_
  refine lv_aload_n hx hb dX2_play_1 rfl (lv_at hl 0 rfl) ?_
  refine z_get (ci := 2) (v := .ref a1) Z zin2 hP 0 rfl rfl 0 (by decide) zm170 rfl rfl dX2_play_2 ?_
  refine lv_iload_n hx hb dX2_play_5 rfl (lv_at hl 2 rfl) ?_
  refine z_callVi (As := [.ref a1, .int (nI k)]) (rest := []) (ci := 3) (k0 := 0) Z hP hD hS hl.1 (zc_X3_come l D cI cZ r ro rn rr rt fr pr n m a1 b1 g k (by omega) (by omega)) zm490 zm388 zm389 zm32 zm390 ⟨rfl, zd_X3_come⟩ ⟨Nat.le_of_ble_eq_true rfl, Nat.le_of_ble_eq_true rfl⟩ ⟨Nat.zero_le _, Nat.zero_le _⟩ [3, 1, 2] rfl (by decide) rfl rfl rfl (fun _ => rfl) rfl (Nat.le_of_ble_eq_true rfl) rfl dX2_play_6 (fun r_1 u H locs h_2 hP hD hS => ?_)
  have hP : va_P D vwCl [(h, .inr (2, [.ref a1, .int jr])), (a1, .inr (6, [.ref b1])), (b1, .inl (cI, 36, .inl (zcome g rt fr n k))), (r, .inr (3, [.ref ro, .ref rn, .ref rr, .int rt, .int fr, .int pr, .int (nI n), .int (nI m)]))] H := hP
  have hD : va_D A [(h, .inr (2, [.ref a1, .int jr])), (a1, .inr (6, [.ref b1])), (b1, .inl (cI, 36, .inl (zcome g rt fr n k))), (r, .inr (3, [.ref ro, .ref rn, .ref rr, .int rt, .int fr, .int pr, .int (nI n), .int (nI m)]))] := hD
  have h_2 : r_1 = zcs g rt fr k n := h_2
  subst h_2
  refine lv_pop hx hb dX2_play_9 rfl ?_
  exact z_vret Z () trivial hP hS dX2_play_10

theorem dX2_coinsOfAll_0 : decode cX2_coinsOfAll 0 = .ok (.iconst 0, 1) := by decide +kernel
theorem dX2_coinsOfAll_1 : decode cX2_coinsOfAll 1 = .ok (.istore_n 2, 1) := by decide +kernel
theorem dX2_coinsOfAll_2 : decode cX2_coinsOfAll 2 = .ok (.iconst 0, 1) := by decide +kernel
theorem dX2_coinsOfAll_3 : decode cX2_coinsOfAll 3 = .ok (.istore_n 3, 1) := by decide +kernel
theorem dX2_coinsOfAll_4 : decode cX2_coinsOfAll 4 = .ok (.iload_n 3, 1) := by decide +kernel
theorem dX2_coinsOfAll_5 : decode cX2_coinsOfAll 5 = .ok (.aload_n 1, 1) := by decide +kernel
theorem dX2_coinsOfAll_6 : decode cX2_coinsOfAll 6 = .ok (.getfield 32, 3) := by decide +kernel
theorem dX2_coinsOfAll_9 : decode cX2_coinsOfAll 9 = .ok (.if_icmp .ge 20, 3) := by decide +kernel
theorem dX2_coinsOfAll_12 : decode cX2_coinsOfAll 12 = .ok (.iload_n 2, 1) := by decide +kernel
theorem dX2_coinsOfAll_13 : decode cX2_coinsOfAll 13 = .ok (.aload_n 0, 1) := by decide +kernel
theorem dX2_coinsOfAll_14 : decode cX2_coinsOfAll 14 = .ok (.getfield 12, 3) := by decide +kernel
theorem dX2_coinsOfAll_17 : decode cX2_coinsOfAll 17 = .ok (.iload_n 3, 1) := by decide +kernel
theorem dX2_coinsOfAll_18 : decode cX2_coinsOfAll 18 = .ok (.invokevirtual 35, 3) := by decide +kernel
theorem dX2_coinsOfAll_21 : decode cX2_coinsOfAll 21 = .ok (.iadd, 1) := by decide +kernel
theorem dX2_coinsOfAll_22 : decode cX2_coinsOfAll 22 = .ok (.istore_n 2, 1) := by decide +kernel
theorem dX2_coinsOfAll_23 : decode cX2_coinsOfAll 23 = .ok (.iinc 3 1, 3) := by decide +kernel
theorem dX2_coinsOfAll_26 : decode cX2_coinsOfAll 26 = .ok (.goto (-22), 3) := by decide +kernel
theorem dX2_coinsOfAll_29 : decode cX2_coinsOfAll 29 = .ok (.iload_n 2, 1) := by decide +kernel
theorem dX2_coinsOfAll_30 : decode cX2_coinsOfAll 30 = .ok (.ireturn, 1) := by decide +kernel
theorem zd_X2_coinsOfAll : yX2_coinsOfAll.cls ≠ "java/lang/invoke/MethodHandle" ∧ yX2_coinsOfAll.cls ≠ "java/lang/invoke/VarHandle" ∧ (parseMethodDescriptor yX2_coinsOfAll.desc).map (fun d => d.parameters.length) = some 1 := by decide +kernel
set_option maxHeartbeats 4000000 in
set_option maxRecDepth 100000 in
theorem zc_X2_coinsOfAll (l : Launch) (D : va_G) (cI cZ : ClassId) (h : Nat) (jr : Int32) (a1 : Nat) (b1 : Nat) (g : Nat → Int32) (r : Nat) (ro : Nat) (rn : Nat) (rr : Nat) (rt : Int32) (fr : Int32) (pr : Int32) (n : Nat) (m : Nat) (hn : n ≤ 5) : zI l yX2_coinsOfAll cX2_coinsOfAll 4 .int 1 21 D cI cZ [.ref h, .ref r] [(h, .inr (2, [.ref a1, .int jr])), (a1, .inr (6, [.ref b1])), (b1, .inl (cI, 36, .inl g)), (r, .inr (3, [.ref ro, .ref rn, .ref rr, .int rt, .int fr, .int pr, .int (nI n), .int (nI m)]))] (fun (r : Int32) (u : Unit) => r = zco g n) (fun (u : Unit) => [(h, .inr (2, [.ref a1, .int jr])), (a1, .inr (6, [.ref b1])), (b1, .inl (cI, 36, .inl g)), (r, .inr (3, [.ref ro, .ref rn, .ref rr, .int rt, .int fr, .int pr, .int (nI n), .int (nI m)]))]) := by
  refine zI_of (by decide) (Nat.le_of_ble_eq_true rfl) ?_
  intro pP eE sS mM aA bB mT cC A ls Z hP hD hS hl
  have hx := Z.1
  have hb := Z.2.1
  have hown := Z.2.2.2.2.2.1
  have hts := Z.2.2.2.2.1
  have Z : zAt pP sS mM aA mT cC D cI cZ A "SurpriseTax$Foresight" cX2_coinsOfAll 4 (some .int) := Z
  have hl : lv_has ls 4 [(0, .ref h), (1, .ref r)] := hl
  obtain ⟨H, hH⟩ : ∃ H, H = sS.heap := ⟨_, rfl⟩
  have hP : va_P D vwCl [(h, .inr (2, [.ref a1, .int jr])), (a1, .inr (6, [.ref b1])), (b1, .inl (cI, 36, .inl g)), (r, .inr (3, [.ref ro, .ref rn, .ref rr, .int rt, .int fr, .int pr, .int (nI n), .int (nI m)]))] H := by rw [hH]; exact hP
  have hS : va_S A sS.heap H [] := by rw [hH]; exact hS
  rw [← hH]
  clear hH
  obtain ⟨locs, hlo⟩ : ∃ q : List Loc, q = [] := ⟨_, rfl⟩
  rw [← hlo] at hS ⊢
  clear hlo
  refine lv_iconst (v := nI 0) hx hb dX2_coinsOfAll_0 (by decide) ?_
  refine lv_istore_n (lv' := [(2, .int (nI 0)), (0, .ref h), (1, .ref r)]) hx hb dX2_coinsOfAll_1 rfl hl (by decide) rfl (fun ls hl => ?_)
  refine lv_iconst (v := nI 0) hx hb dX2_coinsOfAll_2 (by decide) ?_
  refine lv_istore_n (lv' := [(3, .int (nI 0)), (2, .int (nI 0)), (0, .ref h), (1, .ref r)]) hx hb dX2_coinsOfAll_3 rfl hl (by decide) rfl (fun ls hl => ?_)
  have hl : lv_has ls 4 [(3, .int (nI 0)), (2, .int (nI 0)), (0, .ref h), (1, .ref r)] := lv_sub hl [0, 1, 2, 3] rfl
  have e_2 : nI 0 = zco g 0 := by (first | rfl | (simp []; done) | (simp_all []; done))
  have hl : lv_has ls 4 [(3, .int (nI 0)), (2, .int (zco g 0)), (0, .ref h), (1, .ref r)] := Eq.subst (motive := fun zz_ => lv_has ls 4 [(3, .int (nI 0)), (2, .int zz_), (0, .ref h), (1, .ref r)]) e_2 hl
  refine z_loop (fun i H locs ls => va_P D vwCl [(h, .inr (2, [.ref a1, .int jr])), (a1, .inr (6, [.ref b1])), (b1, .inl (cI, 36, .inl g)), (r, .inr (3, [.ref ro, .ref rn, .ref rr, .int rt, .int fr, .int pr, .int (nI n), .int (nI m)]))] H ∧ va_D A [(h, .inr (2, [.ref a1, .int jr])), (a1, .inr (6, [.ref b1])), (b1, .inl (cI, 36, .inl g)), (r, .inr (3, [.ref ro, .ref rn, .ref rr, .int rt, .int fr, .int pr, .int (nI n), .int (nI m)]))] ∧ va_S A sS.heap H locs ∧ lv_has ls 4 [(3, .int (nI i)), (2, .int (zco g i)), (0, .ref h), (1, .ref r)]) (n) (lo := 0) (by omega) ⟨hP, hD, hS, hl⟩ (fun i hi_i ih_1 H locs ls hI => ?_)
  obtain ⟨hP, hD, hS, hl⟩ := hI
  have hP : va_P D vwCl [(h, .inr (2, [.ref a1, .int jr])), (a1, .inr (6, [.ref b1])), (b1, .inl (cI, 36, .inl g)), (r, .inr (3, [.ref ro, .ref rn, .ref rr, .int rt, .int fr, .int pr, .int (nI n), .int (nI m)]))] H := hP
  have hD : va_D A [(h, .inr (2, [.ref a1, .int jr])), (a1, .inr (6, [.ref b1])), (b1, .inl (cI, 36, .inl g)), (r, .inr (3, [.ref ro, .ref rn, .ref rr, .int rt, .int fr, .int pr, .int (nI n), .int (nI m)]))] := hD
  have hl : lv_has ls 4 [(3, .int (nI i)), (2, .int (zco g i)), (0, .ref h), (1, .ref r)] := hl
  refine lv_iload_n hx hb dX2_coinsOfAll_4 rfl (lv_at hl 0 rfl) ?_
  refine lv_aload_n hx hb dX2_coinsOfAll_5 rfl (lv_at hl 3 rfl) ?_
  refine z_getN (ci := 3) (v := .int (nI n)) Z zin3 hP 3 rfl rfl 6 (by decide) zn17 rfl rfl dX2_coinsOfAll_6 ?_
  refine lv_icmp_ge (tgt := 29) hx hb dX2_coinsOfAll_9 (by decide) (fun c_3 => ?_) (fun c_3 => ?_)
  · have c_3 := zle (i := n) (j := i) (by omega) (by omega) c_3
    have hE_ : n = i := by omega
    subst hE_
    refine lv_iload_n hx hb dX2_coinsOfAll_29 rfl (lv_at hl 1 rfl) ?_
    exact z_iret Z () rfl hP hS dX2_coinsOfAll_30
  · have c_3 := znle (i := n) (j := i) (by omega) (by omega) c_3
    refine lv_iload_n hx hb dX2_coinsOfAll_12 rfl (lv_at hl 1 rfl) ?_
    refine lv_aload_n hx hb dX2_coinsOfAll_13 rfl (lv_at hl 2 rfl) ?_
    refine z_get (ci := 2) (v := .ref a1) Z zin2 hP 0 rfl rfl 0 (by decide) zm170 rfl rfl dX2_coinsOfAll_14 ?_
    refine lv_iload_n hx hb dX2_coinsOfAll_17 rfl (lv_at hl 0 rfl) ?_
    refine z_callVi (As := [.int (nI i)]) (rest := [.int (zco g i)]) (ci := 6) (k0 := 0) Z hP hD hS hl.1 (zc_X6_coins l D cI cZ a1 b1 g i (by omega)) zm647 zm314 zm315 zm33 zm316 ⟨rfl, zd_X6_coins⟩ ⟨Nat.le_of_ble_eq_true rfl, Nat.le_of_ble_eq_true rfl⟩ ⟨Nat.zero_le _, Nat.zero_le _⟩ [1, 2] rfl (by decide) rfl rfl rfl (fun _ => rfl) rfl (Nat.le_of_ble_eq_true rfl) rfl dX2_coinsOfAll_18 (fun r_4 u H locs h_5 hP hD hS => ?_)
    have hP : va_P D vwCl [(h, .inr (2, [.ref a1, .int jr])), (a1, .inr (6, [.ref b1])), (b1, .inl (cI, 36, .inl g)), (r, .inr (3, [.ref ro, .ref rn, .ref rr, .int rt, .int fr, .int pr, .int (nI n), .int (nI m)]))] H := hP
    have hD : va_D A [(h, .inr (2, [.ref a1, .int jr])), (a1, .inr (6, [.ref b1])), (b1, .inl (cI, 36, .inl g)), (r, .inr (3, [.ref ro, .ref rn, .ref rr, .int rt, .int fr, .int pr, .int (nI n), .int (nI m)]))] := hD
    have h_5 : r_4 = g (20 + i) := h_5
    subst h_5
    refine lv_iadd hx hb dX2_coinsOfAll_21 ?_
    refine z_top (y := (zco g i) + (g (20 + i))) rfl ?_
    refine lv_istore_n (lv' := [(2, .int ((zco g i) + (g (20 + i)))), (3, .int (nI i)), (0, .ref h), (1, .ref r)]) hx hb dX2_coinsOfAll_22 rfl hl (by decide) rfl (fun ls hl => ?_)
    refine lv_iinc (v := nI (i + 1)) (lv' := [(3, .int (nI (i + 1))), (2, .int ((zco g i) + (g (20 + i)))), (0, .ref h), (1, .ref r)]) hx hb dX2_coinsOfAll_23 hl (k := 1) rfl (z_inc _ 1) (by decide) rfl (fun ls hl => ?_)
    refine lv_goto (tgt := 4) hx hb dX2_coinsOfAll_26 (by decide) ?_
    have hl : lv_has ls 4 [(3, .int (nI (i + 1))), (2, .int ((zco g i) + (g (20 + i)))), (0, .ref h), (1, .ref r)] := lv_sub hl [0, 1, 2, 3] rfl
    have e_6 : (zco g i) + (g (20 + i)) = zco g (i + 1) := by (first | rfl | (simp [c_3]; done) | (simp_all []; done))
    have hl : lv_has ls 4 [(3, .int (nI (i + 1))), (2, .int (zco g (i + 1))), (0, .ref h), (1, .ref r)] := Eq.subst (motive := fun zz_ => lv_has ls 4 [(3, .int (nI (i + 1))), (2, .int zz_), (0, .ref h), (1, .ref r)]) e_6 hl
    exact ih_1 _ _ _ (by omega) ⟨hP, hD, hS, hl⟩

theorem dX2_paidByOthers_0 : decode cX2_paidByOthers 0 = .ok (.iconst 0, 1) := by decide +kernel
theorem dX2_paidByOthers_1 : decode cX2_paidByOthers 1 = .ok (.istore 5, 2) := by decide +kernel
theorem dX2_paidByOthers_3 : decode cX2_paidByOthers 3 = .ok (.iconst 0, 1) := by decide +kernel
theorem dX2_paidByOthers_4 : decode cX2_paidByOthers 4 = .ok (.istore 6, 2) := by decide +kernel
theorem dX2_paidByOthers_6 : decode cX2_paidByOthers 6 = .ok (.iload 6, 2) := by decide +kernel
theorem dX2_paidByOthers_8 : decode cX2_paidByOthers 8 = .ok (.iload_n 3, 1) := by decide +kernel
theorem dX2_paidByOthers_9 : decode cX2_paidByOthers 9 = .ok (.if_icmp .ge 51, 3) := by decide +kernel
theorem dX2_paidByOthers_12 : decode cX2_paidByOthers 12 = .ok (.iload 4, 2) := by decide +kernel
theorem dX2_paidByOthers_14 : decode cX2_paidByOthers 14 = .ok (.iload_n 3, 1) := by decide +kernel
theorem dX2_paidByOthers_15 : decode cX2_paidByOthers 15 = .ok (.iload 6, 2) := by decide +kernel
theorem dX2_paidByOthers_17 : decode cX2_paidByOthers 17 = .ok (.invokestatic 47, 3) := by decide +kernel
theorem dX2_paidByOthers_20 : decode cX2_paidByOthers 20 = .ok (.istore 7, 2) := by decide +kernel
theorem dX2_paidByOthers_22 : decode cX2_paidByOthers 22 = .ok (.aload_n 1, 1) := by decide +kernel
theorem dX2_paidByOthers_23 : decode cX2_paidByOthers 23 = .ok (.aload_n 0, 1) := by decide +kernel
theorem dX2_paidByOthers_24 : decode cX2_paidByOthers 24 = .ok (.getfield 12, 3) := by decide +kernel
theorem dX2_paidByOthers_27 : decode cX2_paidByOthers 27 = .ok (.iload_n 2, 1) := by decide +kernel
theorem dX2_paidByOthers_28 : decode cX2_paidByOthers 28 = .ok (.iload 7, 2) := by decide +kernel
theorem dX2_paidByOthers_30 : decode cX2_paidByOthers 30 = .ok (.invokevirtual 51, 3) := by decide +kernel
theorem dX2_paidByOthers_33 : decode cX2_paidByOthers 33 = .ok (.ifCond .eq 6, 3) := by decide +kernel
theorem dX2_paidByOthers_36 : decode cX2_paidByOthers 36 = .ok (.bipush (-9), 2) := by decide +kernel
theorem dX2_paidByOthers_38 : decode cX2_paidByOthers 38 = .ok (.ireturn, 1) := by decide +kernel
theorem dX2_paidByOthers_39 : decode cX2_paidByOthers 39 = .ok (.iload 5, 2) := by decide +kernel
theorem dX2_paidByOthers_41 : decode cX2_paidByOthers 41 = .ok (.aload_n 1, 1) := by decide +kernel
theorem dX2_paidByOthers_42 : decode cX2_paidByOthers 42 = .ok (.aload_n 0, 1) := by decide +kernel
theorem dX2_paidByOthers_43 : decode cX2_paidByOthers 43 = .ok (.getfield 12, 3) := by decide +kernel
theorem dX2_paidByOthers_46 : decode cX2_paidByOthers 46 = .ok (.iload 7, 2) := by decide +kernel
theorem dX2_paidByOthers_48 : decode cX2_paidByOthers 48 = .ok (.invokevirtual 26, 3) := by decide +kernel
theorem dX2_paidByOthers_51 : decode cX2_paidByOthers 51 = .ok (.iadd, 1) := by decide +kernel
theorem dX2_paidByOthers_52 : decode cX2_paidByOthers 52 = .ok (.istore 5, 2) := by decide +kernel
theorem dX2_paidByOthers_54 : decode cX2_paidByOthers 54 = .ok (.iinc 6 1, 3) := by decide +kernel
theorem dX2_paidByOthers_57 : decode cX2_paidByOthers 57 = .ok (.goto (-51), 3) := by decide +kernel
theorem dX2_paidByOthers_60 : decode cX2_paidByOthers 60 = .ok (.iload 5, 2) := by decide +kernel
theorem dX2_paidByOthers_62 : decode cX2_paidByOthers 62 = .ok (.ireturn, 1) := by decide +kernel
theorem zd_X2_paidByOthers : yX2_paidByOthers.cls ≠ "java/lang/invoke/MethodHandle" ∧ yX2_paidByOthers.cls ≠ "java/lang/invoke/VarHandle" ∧ (parseMethodDescriptor yX2_paidByOthers.desc).map (fun d => d.parameters.length) = some 4 := by decide +kernel
set_option maxHeartbeats 4000000 in
set_option maxRecDepth 100000 in
theorem zc_X2_paidByOthers (l : Launch) (D : va_G) (cI cZ : ClassId) (h : Nat) (jr : Int32) (a1 : Nat) (b1 : Nat) (g : Nat → Int32) (r : Nat) (ro : Nat) (rn : Nat) (rr : Nat) (rt : Int32) (fr : Int32) (pr : Int32) (n : Nat) (m : Nat) (p : Nat) (d : Nat) (w : Nat) (hn : n ≤ 5) (hp : p < 5) (hd : d ≤ 4) (hw : w < 2147483648) : zI l yX2_paidByOthers cX2_paidByOthers 8 .int 4 88 D cI cZ [.ref h, .ref r, .int (nI p), .int (nI d), .int (nI w)] [(h, .inr (2, [.ref a1, .int jr])), (a1, .inr (6, [.ref b1])), (b1, .inl (cI, 36, .inl g)), (r, .inr (3, [.ref ro, .ref rn, .ref rr, .int rt, .int fr, .int pr, .int (nI n), .int (nI m)]))] (fun (r : Int32) (u : (Nat → Int32)) => r = zjo g rt fr n p d w) (fun (u : (Nat → Int32)) => [(h, .inr (2, [.ref a1, .int jr])), (a1, .inr (6, [.ref b1])), (b1, .inl (cI, 36, .inl u)), (r, .inr (3, [.ref ro, .ref rn, .ref rr, .int rt, .int fr, .int pr, .int (nI n), .int (nI m)]))]) := by
  refine zI_of (by decide) (Nat.le_of_ble_eq_true rfl) ?_
  intro pP eE sS mM aA bB mT cC A ls Z hP hD hS hl
  have hx := Z.1
  have hb := Z.2.1
  have hown := Z.2.2.2.2.2.1
  have hts := Z.2.2.2.2.1
  have Z : zAt pP sS mM aA mT cC D cI cZ A "SurpriseTax$Foresight" cX2_paidByOthers 8 (some .int) := Z
  have hl : lv_has ls 8 [(0, .ref h), (1, .ref r), (2, .int (nI p)), (3, .int (nI d)), (4, .int (nI w))] := hl
  obtain ⟨H, hH⟩ : ∃ H, H = sS.heap := ⟨_, rfl⟩
  have hP : va_P D vwCl [(h, .inr (2, [.ref a1, .int jr])), (a1, .inr (6, [.ref b1])), (b1, .inl (cI, 36, .inl g)), (r, .inr (3, [.ref ro, .ref rn, .ref rr, .int rt, .int fr, .int pr, .int (nI n), .int (nI m)]))] H := by rw [hH]; exact hP
  have hS : va_S A sS.heap H [] := by rw [hH]; exact hS
  rw [← hH]
  clear hH
  obtain ⟨locs, hlo⟩ : ∃ q : List Loc, q = [] := ⟨_, rfl⟩
  rw [← hlo] at hS ⊢
  clear hlo
  refine lv_iconst (v := nI 0) hx hb dX2_paidByOthers_0 (by decide) ?_
  refine lv_istore (lv' := [(5, .int (nI 0)), (0, .ref h), (1, .ref r), (2, .int (nI p)), (3, .int (nI d)), (4, .int (nI w))]) hx hb dX2_paidByOthers_1 hl (by decide) rfl (fun ls hl => ?_)
  refine lv_iconst (v := nI 0) hx hb dX2_paidByOthers_3 (by decide) ?_
  refine lv_istore (lv' := [(6, .int (nI 0)), (5, .int (nI 0)), (0, .ref h), (1, .ref r), (2, .int (nI p)), (3, .int (nI d)), (4, .int (nI w))]) hx hb dX2_paidByOthers_4 hl (by decide) rfl (fun ls hl => ?_)
  have e_2 : g = zpg g rt fr n d w 0 := by (first | rfl | (simp []; done) | (simp_all []; done))
  have hP : va_P D vwCl [(h, .inr (2, [.ref a1, .int jr])), (a1, .inr (6, [.ref b1])), (b1, .inl (cI, 36, .inl (zpg g rt fr n d w 0))), (r, .inr (3, [.ref ro, .ref rn, .ref rr, .int rt, .int fr, .int pr, .int (nI n), .int (nI m)]))] H := Eq.subst (motive := fun zz_ => va_P D vwCl [(h, .inr (2, [.ref a1, .int jr])), (a1, .inr (6, [.ref b1])), (b1, .inl (cI, 36, .inl zz_)), (r, .inr (3, [.ref ro, .ref rn, .ref rr, .int rt, .int fr, .int pr, .int (nI n), .int (nI m)]))] H) e_2 hP
  have hD : va_D A [(h, .inr (2, [.ref a1, .int jr])), (a1, .inr (6, [.ref b1])), (b1, .inl (cI, 36, .inl (zpg g rt fr n d w 0))), (r, .inr (3, [.ref ro, .ref rn, .ref rr, .int rt, .int fr, .int pr, .int (nI n), .int (nI m)]))] := zD_of hD rfl
  have hl : lv_has ls 8 [(6, .int (nI 0)), (5, .int (nI 0)), (0, .ref h), (1, .ref r), (2, .int (nI p)), (3, .int (nI d)), (4, .int (nI w))] := lv_sub hl [0, 1, 2, 3, 4, 5, 6] rfl
  have e_3 : nI 0 = zjS g rt fr n d w 0 := by (first | rfl | (simp []; done) | (simp_all []; done))
  have hl : lv_has ls 8 [(6, .int (nI 0)), (5, .int (zjS g rt fr n d w 0)), (0, .ref h), (1, .ref r), (2, .int (nI p)), (3, .int (nI d)), (4, .int (nI w))] := Eq.subst (motive := fun zz_ => lv_has ls 8 [(6, .int (nI 0)), (5, .int zz_), (0, .ref h), (1, .ref r), (2, .int (nI p)), (3, .int (nI d)), (4, .int (nI w))]) e_3 hl
  refine z_loop (fun i H locs ls => va_P D vwCl [(h, .inr (2, [.ref a1, .int jr])), (a1, .inr (6, [.ref b1])), (b1, .inl (cI, 36, .inl (zpg g rt fr n d w i))), (r, .inr (3, [.ref ro, .ref rn, .ref rr, .int rt, .int fr, .int pr, .int (nI n), .int (nI m)]))] H ∧ va_D A [(h, .inr (2, [.ref a1, .int jr])), (a1, .inr (6, [.ref b1])), (b1, .inl (cI, 36, .inl (zpg g rt fr n d w i))), (r, .inr (3, [.ref ro, .ref rn, .ref rr, .int rt, .int fr, .int pr, .int (nI n), .int (nI m)]))] ∧ va_S A sS.heap H locs ∧ lv_has ls 8 [(6, .int (nI i)), (5, .int (zjS g rt fr n d w i)), (0, .ref h), (1, .ref r), (2, .int (nI p)), (3, .int (nI d)), (4, .int (nI w))] ∧ (zjZ g rt fr n p d w i = true)) (d) (lo := 0) (by omega) ⟨hP, hD, hS, hl, (by rfl)⟩ (fun i hi_i ih_1 H locs ls hI => ?_)
  obtain ⟨hP, hD, hS, hl, hv6_0⟩ := hI
  have hv6_0 : zjZ g rt fr n p d w i = true := hv6_0
  have hP : va_P D vwCl [(h, .inr (2, [.ref a1, .int jr])), (a1, .inr (6, [.ref b1])), (b1, .inl (cI, 36, .inl (zpg g rt fr n d w i))), (r, .inr (3, [.ref ro, .ref rn, .ref rr, .int rt, .int fr, .int pr, .int (nI n), .int (nI m)]))] H := hP
  have hD : va_D A [(h, .inr (2, [.ref a1, .int jr])), (a1, .inr (6, [.ref b1])), (b1, .inl (cI, 36, .inl (zpg g rt fr n d w i))), (r, .inr (3, [.ref ro, .ref rn, .ref rr, .int rt, .int fr, .int pr, .int (nI n), .int (nI m)]))] := hD
  have hl : lv_has ls 8 [(6, .int (nI i)), (5, .int (zjS g rt fr n d w i)), (0, .ref h), (1, .ref r), (2, .int (nI p)), (3, .int (nI d)), (4, .int (nI w))] := hl
  refine lv_iload hx hb dX2_paidByOthers_6 (lv_at hl 0 rfl) ?_
  refine lv_iload_n hx hb dX2_paidByOthers_8 rfl (lv_at hl 5 rfl) ?_
  refine lv_icmp_ge (tgt := 60) hx hb dX2_paidByOthers_9 (by decide) (fun c_4 => ?_) (fun c_4 => ?_)
  · have c_4 := zle (i := d) (j := i) (by omega) (by omega) c_4
    have hE_ : d = i := by omega
    subst hE_
    refine lv_iload hx hb dX2_paidByOthers_60 (lv_at hl 1 rfl) ?_
    exact z_iret Z (zpg g rt fr n d w d) (by unfold zjo; rw [hv6_0]; rfl) hP hS dX2_paidByOthers_62
  · have c_4 := znle (i := d) (j := i) (by omega) (by omega) c_4
    refine lv_iload hx hb dX2_paidByOthers_12 (lv_at hl 6 rfl) ?_
    refine lv_iload_n hx hb dX2_paidByOthers_14 rfl (lv_at hl 5 rfl) ?_
    refine lv_iload hx hb dX2_paidByOthers_15 (lv_at hl 0 rfl) ?_
    refine z_callNi (As := [.int (nI w), .int (nI d), .int (nI i)]) (rest := []) Z hP hD hS hl.1 (zc_X8_kindAt l D cI cZ w d i (by omega) (by omega) (by omega)) zn30 zm473 zm30 zm474 zd_X8_kindAt ⟨Nat.le_of_ble_eq_true rfl, Nat.le_of_ble_eq_true rfl⟩ ⟨Nat.zero_le _, Nat.zero_le _⟩ [] rfl (by decide) (fun _ => rfl) rfl (Nat.le_of_ble_eq_true rfl) rfl dX2_paidByOthers_17 (fun r_5 u H locs h_6 hP hD hS => ?_)
    have hP : va_P D vwCl [(h, .inr (2, [.ref a1, .int jr])), (a1, .inr (6, [.ref b1])), (b1, .inl (cI, 36, .inl (zpg g rt fr n d w i))), (r, .inr (3, [.ref ro, .ref rn, .ref rr, .int rt, .int fr, .int pr, .int (nI n), .int (nI m)]))] H := hP
    have hD : va_D A [(h, .inr (2, [.ref a1, .int jr])), (a1, .inr (6, [.ref b1])), (b1, .inl (cI, 36, .inl (zpg g rt fr n d w i))), (r, .inr (3, [.ref ro, .ref rn, .ref rr, .int rt, .int fr, .int pr, .int (nI n), .int (nI m)]))] := hD
    have h_6 : r_5 = nI (zki w d i) := h_6
    subst h_6
    have hk4 := zki_lt w d i
    refine lv_istore (lv' := [(7, .int (nI (zki w d i))), (6, .int (nI i)), (5, .int (zjS g rt fr n d w i)), (0, .ref h), (1, .ref r), (2, .int (nI p)), (3, .int (nI d)), (4, .int (nI w))]) hx hb dX2_paidByOthers_20 hl (by decide) rfl (fun ls hl => ?_)
    refine lv_aload_n hx hb dX2_paidByOthers_22 rfl (lv_at hl 4 rfl) ?_
    refine lv_aload_n hx hb dX2_paidByOthers_23 rfl (lv_at hl 3 rfl) ?_
    refine z_get (ci := 2) (v := .ref a1) Z zin2 hP 0 rfl rfl 0 (by decide) zm170 rfl rfl dX2_paidByOthers_24 ?_
    refine lv_iload_n hx hb dX2_paidByOthers_27 rfl (lv_at hl 5 rfl) ?_
    refine lv_iload hx hb dX2_paidByOthers_28 (lv_at hl 0 rfl) ?_
    refine z_callVi (As := [.ref a1, .int (nI p), .int (nI (zki w d i))]) (rest := []) (ci := 3) (k0 := 0) Z hP hD hS hl.1 (zc_X3_taxOf l D cI cZ r ro rn rr rt fr pr n m a1 b1 (zpg g rt fr n d w i) p (zki w d i) (by omega) (by omega)) zm489 zm392 zm393 zm32 zm394 ⟨rfl, zd_X3_taxOf⟩ ⟨Nat.le_of_ble_eq_true rfl, Nat.le_of_ble_eq_true rfl⟩ ⟨Nat.zero_le _, Nat.zero_le _⟩ [3, 1, 2] rfl (by decide) rfl rfl rfl (fun _ => rfl) rfl (Nat.le_of_ble_eq_true rfl) rfl dX2_paidByOthers_30 (fun r_7 u H locs h_8 hP hD hS => ?_)
    have hP : va_P D vwCl [(h, .inr (2, [.ref a1, .int jr])), (a1, .inr (6, [.ref b1])), (b1, .inl (cI, 36, .inl (zpg g rt fr n d w i))), (r, .inr (3, [.ref ro, .ref rn, .ref rr, .int rt, .int fr, .int pr, .int (nI n), .int (nI m)]))] H := hP
    have hD : va_D A [(h, .inr (2, [.ref a1, .int jr])), (a1, .inr (6, [.ref b1])), (b1, .inl (cI, 36, .inl (zpg g rt fr n d w i))), (r, .inr (3, [.ref ro, .ref rn, .ref rr, .int rt, .int fr, .int pr, .int (nI n), .int (nI m)]))] := hD
    have h_8 : r_7 = ztax (zpg g rt fr n d w i) rt fr p (zki w d i) := h_8
    subst h_8
    refine lv_if_eq (tgt := 39) hx hb dX2_paidByOthers_33 (by decide) (fun c_9 => ?_) (fun c_9 => ?_)
    · have c_9 : (ztax (zpg g rt fr n d w i) rt fr p (zki w d i)) = 0 := c_9
      refine lv_iload hx hb dX2_paidByOthers_39 (lv_at hl 2 rfl) ?_
      refine lv_aload_n hx hb dX2_paidByOthers_41 rfl (lv_at hl 4 rfl) ?_
      refine lv_aload_n hx hb dX2_paidByOthers_42 rfl (lv_at hl 3 rfl) ?_
      refine z_get (ci := 2) (v := .ref a1) Z zin2 hP 0 rfl rfl 0 (by decide) zm170 rfl rfl dX2_paidByOthers_43 ?_
      refine lv_iload hx hb dX2_paidByOthers_46 (lv_at hl 0 rfl) ?_
      refine z_callVi (As := [.ref a1, .int (nI (zki w d i))]) (rest := [.int (zjS g rt fr n d w i)]) (ci := 3) (k0 := 0) Z hP hD hS hl.1 (zc_X3_come l D cI cZ r ro rn rr rt fr pr n m a1 b1 (zpg g rt fr n d w i) (zki w d i) (by omega) (by omega)) zm490 zm388 zm389 zm32 zm390 ⟨rfl, zd_X3_come⟩ ⟨Nat.le_of_ble_eq_true rfl, Nat.le_of_ble_eq_true rfl⟩ ⟨Nat.zero_le _, Nat.zero_le _⟩ [3, 1, 2] rfl (by decide) rfl rfl rfl (fun _ => rfl) rfl (Nat.le_of_ble_eq_true rfl) rfl dX2_paidByOthers_48 (fun r_10 u H locs h_11 hP hD hS => ?_)
      have hP : va_P D vwCl [(h, .inr (2, [.ref a1, .int jr])), (a1, .inr (6, [.ref b1])), (b1, .inl (cI, 36, .inl (zcome (zpg g rt fr n d w i) rt fr n (zki w d i)))), (r, .inr (3, [.ref ro, .ref rn, .ref rr, .int rt, .int fr, .int pr, .int (nI n), .int (nI m)]))] H := hP
      have hD : va_D A [(h, .inr (2, [.ref a1, .int jr])), (a1, .inr (6, [.ref b1])), (b1, .inl (cI, 36, .inl (zcome (zpg g rt fr n d w i) rt fr n (zki w d i)))), (r, .inr (3, [.ref ro, .ref rn, .ref rr, .int rt, .int fr, .int pr, .int (nI n), .int (nI m)]))] := hD
      have h_11 : r_10 = zcs (zpg g rt fr n d w i) rt fr (zki w d i) n := h_11
      subst h_11
      refine lv_iadd hx hb dX2_paidByOthers_51 ?_
      refine z_top (y := (zjS g rt fr n d w i) + (zcs (zpg g rt fr n d w i) rt fr (zki w d i) n)) rfl ?_
      refine lv_istore (lv' := [(5, .int ((zjS g rt fr n d w i) + (zcs (zpg g rt fr n d w i) rt fr (zki w d i) n))), (7, .int (nI (zki w d i))), (6, .int (nI i)), (0, .ref h), (1, .ref r), (2, .int (nI p)), (3, .int (nI d)), (4, .int (nI w))]) hx hb dX2_paidByOthers_52 hl (by decide) rfl (fun ls hl => ?_)
      refine lv_iinc (v := nI (i + 1)) (lv' := [(6, .int (nI (i + 1))), (5, .int ((zjS g rt fr n d w i) + (zcs (zpg g rt fr n d w i) rt fr (zki w d i) n))), (7, .int (nI (zki w d i))), (0, .ref h), (1, .ref r), (2, .int (nI p)), (3, .int (nI d)), (4, .int (nI w))]) hx hb dX2_paidByOthers_54 hl (k := 2) rfl (z_inc _ 1) (by decide) rfl (fun ls hl => ?_)
      refine lv_goto (tgt := 6) hx hb dX2_paidByOthers_57 (by decide) ?_
      have e_12 : zcome (zpg g rt fr n d w i) rt fr n (zki w d i) = zpg g rt fr n d w (i + 1) := by (first | rfl | (simp [c_4, c_9]; done) | (simp_all []; done))
      have hP : va_P D vwCl [(h, .inr (2, [.ref a1, .int jr])), (a1, .inr (6, [.ref b1])), (b1, .inl (cI, 36, .inl (zpg g rt fr n d w (i + 1)))), (r, .inr (3, [.ref ro, .ref rn, .ref rr, .int rt, .int fr, .int pr, .int (nI n), .int (nI m)]))] H := Eq.subst (motive := fun zz_ => va_P D vwCl [(h, .inr (2, [.ref a1, .int jr])), (a1, .inr (6, [.ref b1])), (b1, .inl (cI, 36, .inl zz_)), (r, .inr (3, [.ref ro, .ref rn, .ref rr, .int rt, .int fr, .int pr, .int (nI n), .int (nI m)]))] H) e_12 hP
      have hD : va_D A [(h, .inr (2, [.ref a1, .int jr])), (a1, .inr (6, [.ref b1])), (b1, .inl (cI, 36, .inl (zpg g rt fr n d w (i + 1)))), (r, .inr (3, [.ref ro, .ref rn, .ref rr, .int rt, .int fr, .int pr, .int (nI n), .int (nI m)]))] := zD_of hD rfl
      have hl : lv_has ls 8 [(6, .int (nI (i + 1))), (5, .int ((zjS g rt fr n d w i) + (zcs (zpg g rt fr n d w i) rt fr (zki w d i) n))), (0, .ref h), (1, .ref r), (2, .int (nI p)), (3, .int (nI d)), (4, .int (nI w))] := lv_sub hl [0, 1, 3, 4, 5, 6, 7] rfl
      have e_13 : (zjS g rt fr n d w i) + (zcs (zpg g rt fr n d w i) rt fr (zki w d i) n) = zjS g rt fr n d w (i + 1) := by (first | rfl | (simp [c_4, c_9]; done) | (simp_all []; done))
      have hl : lv_has ls 8 [(6, .int (nI (i + 1))), (5, .int (zjS g rt fr n d w (i + 1))), (0, .ref h), (1, .ref r), (2, .int (nI p)), (3, .int (nI d)), (4, .int (nI w))] := Eq.subst (motive := fun zz_ => lv_has ls 8 [(6, .int (nI (i + 1))), (5, .int zz_), (0, .ref h), (1, .ref r), (2, .int (nI p)), (3, .int (nI d)), (4, .int (nI w))]) e_13 hl
      exact ih_1 _ _ _ (by omega) ⟨hP, hD, hS, hl, (by exact zjZ_s hv6_0 (by assumption))⟩
    · have c_9 : ¬ ((ztax (zpg g rt fr n d w i) rt fr p (zki w d i)) = 0) := c_9
      refine lv_bipush (v := -9) hx hb dX2_paidByOthers_36 (by decide) ?_
      exact z_iret Z (zpg g rt fr n d w i) (by unfold zjo; rw [zjZ_false (by assumption) (by omega)]; rfl) hP hS dX2_paidByOthers_38

theorem dX2_seekJoke_0 : decode cX2_seekJoke 0 = .ok (.bipush (-9), 2) := by decide +kernel
theorem dX2_seekJoke_2 : decode cX2_seekJoke 2 = .ok (.istore 5, 2) := by decide +kernel
theorem dX2_seekJoke_4 : decode cX2_seekJoke 4 = .ok (.iconst 4, 1) := by decide +kernel
theorem dX2_seekJoke_5 : decode cX2_seekJoke 5 = .ok (.iload 4, 2) := by decide +kernel
theorem dX2_seekJoke_7 : decode cX2_seekJoke 7 = .ok (.invokestatic 39, 3) := by decide +kernel
theorem dX2_seekJoke_10 : decode cX2_seekJoke 10 = .ok (.istore 6, 2) := by decide +kernel
theorem dX2_seekJoke_12 : decode cX2_seekJoke 12 = .ok (.iconst 0, 1) := by decide +kernel
theorem dX2_seekJoke_13 : decode cX2_seekJoke 13 = .ok (.istore 7, 2) := by decide +kernel
theorem dX2_seekJoke_15 : decode cX2_seekJoke 15 = .ok (.iload 7, 2) := by decide +kernel
theorem dX2_seekJoke_17 : decode cX2_seekJoke 17 = .ok (.iload 6, 2) := by decide +kernel
theorem dX2_seekJoke_19 : decode cX2_seekJoke 19 = .ok (.if_icmp .ge 46, 3) := by decide +kernel
theorem dX2_seekJoke_22 : decode cX2_seekJoke 22 = .ok (.aload_n 0, 1) := by decide +kernel
theorem dX2_seekJoke_23 : decode cX2_seekJoke 23 = .ok (.getfield 12, 3) := by decide +kernel
theorem dX2_seekJoke_26 : decode cX2_seekJoke 26 = .ok (.aload_n 2, 1) := by decide +kernel
theorem dX2_seekJoke_27 : decode cX2_seekJoke 27 = .ok (.invokevirtual 22, 3) := by decide +kernel
theorem dX2_seekJoke_30 : decode cX2_seekJoke 30 = .ok (.aload_n 0, 1) := by decide +kernel
theorem dX2_seekJoke_31 : decode cX2_seekJoke 31 = .ok (.aload_n 1, 1) := by decide +kernel
theorem dX2_seekJoke_32 : decode cX2_seekJoke 32 = .ok (.iload_n 3, 1) := by decide +kernel
theorem dX2_seekJoke_33 : decode cX2_seekJoke 33 = .ok (.iload 4, 2) := by decide +kernel
theorem dX2_seekJoke_35 : decode cX2_seekJoke 35 = .ok (.iload 7, 2) := by decide +kernel
theorem dX2_seekJoke_37 : decode cX2_seekJoke 37 = .ok (.invokevirtual 43, 3) := by decide +kernel
theorem dX2_seekJoke_40 : decode cX2_seekJoke 40 = .ok (.istore 8, 2) := by decide +kernel
theorem dX2_seekJoke_42 : decode cX2_seekJoke 42 = .ok (.iload 8, 2) := by decide +kernel
theorem dX2_seekJoke_44 : decode cX2_seekJoke 44 = .ok (.iload 5, 2) := by decide +kernel
theorem dX2_seekJoke_46 : decode cX2_seekJoke 46 = .ok (.if_icmp .le 13, 3) := by decide +kernel
theorem dX2_seekJoke_49 : decode cX2_seekJoke 49 = .ok (.iload 8, 2) := by decide +kernel
theorem dX2_seekJoke_51 : decode cX2_seekJoke 51 = .ok (.istore 5, 2) := by decide +kernel
theorem dX2_seekJoke_53 : decode cX2_seekJoke 53 = .ok (.aload_n 0, 1) := by decide +kernel
theorem dX2_seekJoke_54 : decode cX2_seekJoke 54 = .ok (.iload 7, 2) := by decide +kernel
theorem dX2_seekJoke_56 : decode cX2_seekJoke 56 = .ok (.putfield 18, 3) := by decide +kernel
theorem dX2_seekJoke_59 : decode cX2_seekJoke 59 = .ok (.iinc 7 1, 3) := by decide +kernel
theorem dX2_seekJoke_62 : decode cX2_seekJoke 62 = .ok (.goto (-47), 3) := by decide +kernel
theorem dX2_seekJoke_65 : decode cX2_seekJoke 65 = .ok (.iload 5, 2) := by decide +kernel
theorem dX2_seekJoke_67 : decode cX2_seekJoke 67 = .ok (.ireturn, 1) := by decide +kernel
theorem zd_X2_seekJoke : yX2_seekJoke.cls ≠ "java/lang/invoke/MethodHandle" ∧ yX2_seekJoke.cls ≠ "java/lang/invoke/VarHandle" ∧ (parseMethodDescriptor yX2_seekJoke.desc).map (fun d => d.parameters.length) = some 4 := by decide +kernel
set_option maxHeartbeats 4000000 in
set_option maxRecDepth 100000 in
theorem zc_X2_seekJoke (l : Launch) (D : va_G) (cI cZ : ClassId) (h : Nat) (jr : Int32) (a1 : Nat) (b1 : Nat) (g : Nat → Int32) (r : Nat) (ro : Nat) (rn : Nat) (rr : Nat) (rt : Int32) (fr : Int32) (pr : Int32) (n : Nat) (m : Nat) (a : Nat) (b : Nat) (f : Nat → Int32) (p : Nat) (d : Nat) (hn : n ≤ 5) (hp : p < 5) (hd : d ≤ 4) : zI l yX2_seekJoke cX2_seekJoke 9 .int 5 115 D cI cZ [.ref h, .ref r, .ref a, .int (nI p), .int (nI d)] [(h, .inr (2, [.ref a1, .int jr])), (a1, .inr (6, [.ref b1])), (b1, .inl (cI, 36, .inl g)), (r, .inr (3, [.ref ro, .ref rn, .ref rr, .int rt, .int fr, .int pr, .int (nI n), .int (nI m)])), (a, .inr (6, [.ref b])), (b, .inl (cI, 36, .inl f))] (fun (r : Int32) (u : (Nat → Int32)) => r = (zsj f rt fr n p d jr (4 ^ d)).1) (fun (u : (Nat → Int32)) => [(h, .inr (2, [.ref a1, .int ((zsj f rt fr n p d jr (4 ^ d)).2)])), (a1, .inr (6, [.ref b1])), (b1, .inl (cI, 36, .inl u)), (r, .inr (3, [.ref ro, .ref rn, .ref rr, .int rt, .int fr, .int pr, .int (nI n), .int (nI m)])), (a, .inr (6, [.ref b])), (b, .inl (cI, 36, .inl f))]) := by
  refine zI_of (by decide) (Nat.le_of_ble_eq_true rfl) ?_
  intro pP eE sS mM aA bB mT cC A ls Z hP hD hS hl
  have hx := Z.1
  have hb := Z.2.1
  have hown := Z.2.2.2.2.2.1
  have hts := Z.2.2.2.2.1
  have Z : zAt pP sS mM aA mT cC D cI cZ A "SurpriseTax$Foresight" cX2_seekJoke 9 (some .int) := Z
  have hl : lv_has ls 9 [(0, .ref h), (1, .ref r), (2, .ref a), (3, .int (nI p)), (4, .int (nI d))] := hl
  obtain ⟨H, hH⟩ : ∃ H, H = sS.heap := ⟨_, rfl⟩
  have hP : va_P D vwCl [(h, .inr (2, [.ref a1, .int jr])), (a1, .inr (6, [.ref b1])), (b1, .inl (cI, 36, .inl g)), (r, .inr (3, [.ref ro, .ref rn, .ref rr, .int rt, .int fr, .int pr, .int (nI n), .int (nI m)])), (a, .inr (6, [.ref b])), (b, .inl (cI, 36, .inl f))] H := by rw [hH]; exact hP
  have hS : va_S A sS.heap H [] := by rw [hH]; exact hS
  rw [← hH]
  clear hH
  obtain ⟨locs, hlo⟩ : ∃ q : List Loc, q = [] := ⟨_, rfl⟩
  rw [← hlo] at hS ⊢
  clear hlo
  refine lv_bipush (v := -9) hx hb dX2_seekJoke_0 (by decide) ?_
  refine lv_istore (lv' := [(5, .int (-9)), (0, .ref h), (1, .ref r), (2, .ref a), (3, .int (nI p)), (4, .int (nI d))]) hx hb dX2_seekJoke_2 hl (by decide) rfl (fun ls hl => ?_)
  refine lv_iconst (v := nI 4) hx hb dX2_seekJoke_4 (by decide) ?_
  refine lv_iload hx hb dX2_seekJoke_5 (lv_at hl 5 rfl) ?_
  refine z_callNi (As := [.int (nI 4), .int (nI d)]) (rest := []) Z hP hD hS hl.1 (zc_X8_power l D cI cZ 4 d (by omega)) zn29 zm468 zm30 zm469 zd_X8_power ⟨Nat.le_of_ble_eq_true rfl, Nat.le_of_ble_eq_true rfl⟩ ⟨Nat.zero_le _, Nat.zero_le _⟩ [] rfl (by decide) (fun _ => rfl) rfl (Nat.le_of_ble_eq_true rfl) rfl dX2_seekJoke_7 (fun r_1 u H locs h_2 hP hD hS => ?_)
  have hP : va_P D vwCl [(h, .inr (2, [.ref a1, .int jr])), (a1, .inr (6, [.ref b1])), (b1, .inl (cI, 36, .inl g)), (r, .inr (3, [.ref ro, .ref rn, .ref rr, .int rt, .int fr, .int pr, .int (nI n), .int (nI m)])), (a, .inr (6, [.ref b])), (b, .inl (cI, 36, .inl f))] H := hP
  have hD : va_D A [(h, .inr (2, [.ref a1, .int jr])), (a1, .inr (6, [.ref b1])), (b1, .inl (cI, 36, .inl g)), (r, .inr (3, [.ref ro, .ref rn, .ref rr, .int rt, .int fr, .int pr, .int (nI n), .int (nI m)])), (a, .inr (6, [.ref b])), (b, .inl (cI, 36, .inl f))] := hD
  have h_2 : r_1 = nI (4 ^ d) := h_2
  subst h_2
  have h4d : 4 ^ d ≤ 256 := (Nat.pow_le_pow_right (show 0 < 4 by decide) (show d ≤ 4 by omega) : 4 ^ d ≤ 4 ^ 4)
  refine lv_istore (lv' := [(6, .int (nI (4 ^ d))), (5, .int (-9)), (0, .ref h), (1, .ref r), (2, .ref a), (3, .int (nI p)), (4, .int (nI d))]) hx hb dX2_seekJoke_10 hl (by decide) rfl (fun ls hl => ?_)
  refine lv_iconst (v := nI 0) hx hb dX2_seekJoke_12 (by decide) ?_
  refine lv_istore (lv' := [(7, .int (nI 0)), (6, .int (nI (4 ^ d))), (5, .int (-9)), (0, .ref h), (1, .ref r), (2, .ref a), (3, .int (nI p)), (4, .int (nI d))]) hx hb dX2_seekJoke_13 hl (by decide) rfl (fun ls hl => ?_)
  have e_4 : jr = (zsj f rt fr n p d jr 0).2 := by rfl
  have hP : va_P D vwCl [(h, .inr (2, [.ref a1, .int ((zsj f rt fr n p d jr 0).2)])), (a1, .inr (6, [.ref b1])), (b1, .inl (cI, 36, .inl g)), (r, .inr (3, [.ref ro, .ref rn, .ref rr, .int rt, .int fr, .int pr, .int (nI n), .int (nI m)])), (a, .inr (6, [.ref b])), (b, .inl (cI, 36, .inl f))] H := Eq.subst (motive := fun zz_ => va_P D vwCl [(h, .inr (2, [.ref a1, .int zz_])), (a1, .inr (6, [.ref b1])), (b1, .inl (cI, 36, .inl g)), (r, .inr (3, [.ref ro, .ref rn, .ref rr, .int rt, .int fr, .int pr, .int (nI n), .int (nI m)])), (a, .inr (6, [.ref b])), (b, .inl (cI, 36, .inl f))] H) e_4 hP
  have hD : va_D A [(h, .inr (2, [.ref a1, .int ((zsj f rt fr n p d jr 0).2)])), (a1, .inr (6, [.ref b1])), (b1, .inl (cI, 36, .inl g)), (r, .inr (3, [.ref ro, .ref rn, .ref rr, .int rt, .int fr, .int pr, .int (nI n), .int (nI m)])), (a, .inr (6, [.ref b])), (b, .inl (cI, 36, .inl f))] := zD_of hD rfl
  have hl : lv_has ls 9 [(7, .int (nI 0)), (6, .int (nI (4 ^ d))), (5, .int (-9)), (0, .ref h), (1, .ref r), (2, .ref a), (3, .int (nI p)), (4, .int (nI d))] := lv_sub hl [0, 1, 2, 3, 4, 5, 6, 7] rfl
  have e_5 : -9 = (zsj f rt fr n p d jr 0).1 := by rfl
  have hl : lv_has ls 9 [(7, .int (nI 0)), (6, .int (nI (4 ^ d))), (5, .int ((zsj f rt fr n p d jr 0).1)), (0, .ref h), (1, .ref r), (2, .ref a), (3, .int (nI p)), (4, .int (nI d))] := Eq.subst (motive := fun zz_ => lv_has ls 9 [(7, .int (nI 0)), (6, .int (nI (4 ^ d))), (5, .int zz_), (0, .ref h), (1, .ref r), (2, .ref a), (3, .int (nI p)), (4, .int (nI d))]) e_5 hl
  refine z_loopm (fun (x_ : Nat × (Nat → Int32)) H locs ls => va_P D vwCl [(h, .inr (2, [.ref a1, .int ((zsj f rt fr n p d jr x_.1).2)])), (a1, .inr (6, [.ref b1])), (b1, .inl (cI, 36, .inl x_.2)), (r, .inr (3, [.ref ro, .ref rn, .ref rr, .int rt, .int fr, .int pr, .int (nI n), .int (nI m)])), (a, .inr (6, [.ref b])), (b, .inl (cI, 36, .inl f))] H ∧ va_D A [(h, .inr (2, [.ref a1, .int ((zsj f rt fr n p d jr x_.1).2)])), (a1, .inr (6, [.ref b1])), (b1, .inl (cI, 36, .inl x_.2)), (r, .inr (3, [.ref ro, .ref rn, .ref rr, .int rt, .int fr, .int pr, .int (nI n), .int (nI m)])), (a, .inr (6, [.ref b])), (b, .inl (cI, 36, .inl f))] ∧ va_S A sS.heap H locs ∧ lv_has ls 9 [(7, .int (nI x_.1)), (6, .int (nI (4 ^ d))), (5, .int ((zsj f rt fr n p d jr x_.1).1)), (0, .ref h), (1, .ref r), (2, .ref a), (3, .int (nI p)), (4, .int (nI d))] ∧ (x_.1 ≤ 4 ^ d)) (fun x_ => 4 ^ d - x_.1) (0, g) ⟨hP, hD, hS, hl, (by exact Nat.zero_le _)⟩ (fun x_ ih_3 H locs ls hI => ?_)
  obtain ⟨w, g9⟩ := x_
  obtain ⟨hP, hD, hS, hl, hv15_0⟩ := hI
  dsimp only at ih_3 hv15_0
  have hv15_0 : w ≤ 4 ^ d := hv15_0
  have hP : va_P D vwCl [(h, .inr (2, [.ref a1, .int ((zsj f rt fr n p d jr w).2)])), (a1, .inr (6, [.ref b1])), (b1, .inl (cI, 36, .inl g9)), (r, .inr (3, [.ref ro, .ref rn, .ref rr, .int rt, .int fr, .int pr, .int (nI n), .int (nI m)])), (a, .inr (6, [.ref b])), (b, .inl (cI, 36, .inl f))] H := hP
  have hD : va_D A [(h, .inr (2, [.ref a1, .int ((zsj f rt fr n p d jr w).2)])), (a1, .inr (6, [.ref b1])), (b1, .inl (cI, 36, .inl g9)), (r, .inr (3, [.ref ro, .ref rn, .ref rr, .int rt, .int fr, .int pr, .int (nI n), .int (nI m)])), (a, .inr (6, [.ref b])), (b, .inl (cI, 36, .inl f))] := hD
  have hl : lv_has ls 9 [(7, .int (nI w)), (6, .int (nI (4 ^ d))), (5, .int ((zsj f rt fr n p d jr w).1)), (0, .ref h), (1, .ref r), (2, .ref a), (3, .int (nI p)), (4, .int (nI d))] := hl
  refine lv_iload hx hb dX2_seekJoke_15 (lv_at hl 0 rfl) ?_
  refine lv_iload hx hb dX2_seekJoke_17 (lv_at hl 1 rfl) ?_
  refine lv_icmp_ge (tgt := 65) hx hb dX2_seekJoke_19 (by decide) (fun c_6 => ?_) (fun c_6 => ?_)
  · have c_6 := zle (i := 4 ^ d) (j := w) (by omega) (by omega) c_6
    have hE_ : 4 ^ d = w := by omega
    subst hE_
    refine lv_iload hx hb dX2_seekJoke_65 (lv_at hl 2 rfl) ?_
    exact z_iret Z (g9) rfl hP hS dX2_seekJoke_67
  · have c_6 := znle (i := 4 ^ d) (j := w) (by omega) (by omega) c_6
    refine lv_aload_n hx hb dX2_seekJoke_22 rfl (lv_at hl 3 rfl) ?_
    refine z_get (ci := 2) (v := .ref a1) Z zin2 hP 0 rfl rfl 0 (by decide) zm170 rfl rfl dX2_seekJoke_23 ?_
    refine lv_aload_n hx hb dX2_seekJoke_26 rfl (lv_at hl 5 rfl) ?_
    refine z_callVv (As := [.ref a]) (rest := []) (ci := 6) (k0 := 0) Z hP hD hS hl.1 (zc_X6_copyFrom l D cI cZ a1 b1 g9 a b f ) zm485 zm451 zm452 zm33 zm453 ⟨rfl, zd_X6_copyFrom⟩ ⟨Nat.le_of_ble_eq_true rfl, Nat.le_of_ble_eq_true rfl⟩ ⟨Nat.zero_le _, Nat.zero_le _⟩ [1, 2, 4, 5] rfl (by decide) rfl rfl rfl (fun _ => rfl) rfl (Nat.le_of_ble_eq_true rfl) rfl dX2_seekJoke_27 (fun u H locs h_8 hP hD hS => ?_)
    have hP : va_P D vwCl [(h, .inr (2, [.ref a1, .int ((zsj f rt fr n p d jr w).2)])), (a1, .inr (6, [.ref b1])), (b1, .inl (cI, 36, .inl f)), (r, .inr (3, [.ref ro, .ref rn, .ref rr, .int rt, .int fr, .int pr, .int (nI n), .int (nI m)])), (a, .inr (6, [.ref b])), (b, .inl (cI, 36, .inl f))] H := hP
    have hD : va_D A [(h, .inr (2, [.ref a1, .int ((zsj f rt fr n p d jr w).2)])), (a1, .inr (6, [.ref b1])), (b1, .inl (cI, 36, .inl f)), (r, .inr (3, [.ref ro, .ref rn, .ref rr, .int rt, .int fr, .int pr, .int (nI n), .int (nI m)])), (a, .inr (6, [.ref b])), (b, .inl (cI, 36, .inl f))] := hD
    refine lv_aload_n hx hb dX2_seekJoke_30 rfl (lv_at hl 3 rfl) ?_
    refine lv_aload_n hx hb dX2_seekJoke_31 rfl (lv_at hl 4 rfl) ?_
    refine lv_iload_n hx hb dX2_seekJoke_32 rfl (lv_at hl 6 rfl) ?_
    refine lv_iload hx hb dX2_seekJoke_33 (lv_at hl 7 rfl) ?_
    refine lv_iload hx hb dX2_seekJoke_35 (lv_at hl 0 rfl) ?_
    refine z_callVi (As := [.ref r, .int (nI p), .int (nI d), .int (nI w)]) (rest := []) (ci := 2) (k0 := 0) Z hP hD hS hl.1 (zc_X2_paidByOthers l D cI cZ h ((zsj f rt fr n p d jr w).2) a1 b1 f r ro rn rr rt fr pr n m p d w (by omega) (by omega) (by omega) (by omega)) zm486 zm487 zm9 zm38 zm488 ⟨rfl, zd_X2_paidByOthers⟩ ⟨Nat.le_of_ble_eq_true rfl, Nat.le_of_ble_eq_true rfl⟩ ⟨Nat.zero_le _, Nat.zero_le _⟩ [0, 1, 2, 3] rfl (by decide) rfl rfl rfl (fun _ => rfl) rfl (Nat.le_of_ble_eq_true rfl) rfl dX2_seekJoke_37 (fun r_9 u H locs h_10 hP hD hS => ?_)
    obtain ⟨g2_11, rfl⟩ : ∃ z, z = u := ⟨_, rfl⟩
    have hP : va_P D vwCl [(h, .inr (2, [.ref a1, .int ((zsj f rt fr n p d jr w).2)])), (a1, .inr (6, [.ref b1])), (b1, .inl (cI, 36, .inl g2_11)), (r, .inr (3, [.ref ro, .ref rn, .ref rr, .int rt, .int fr, .int pr, .int (nI n), .int (nI m)])), (a, .inr (6, [.ref b])), (b, .inl (cI, 36, .inl f))] H := hP
    have hD : va_D A [(h, .inr (2, [.ref a1, .int ((zsj f rt fr n p d jr w).2)])), (a1, .inr (6, [.ref b1])), (b1, .inl (cI, 36, .inl g2_11)), (r, .inr (3, [.ref ro, .ref rn, .ref rr, .int rt, .int fr, .int pr, .int (nI n), .int (nI m)])), (a, .inr (6, [.ref b])), (b, .inl (cI, 36, .inl f))] := hD
    have h_10 : r_9 = zjo f rt fr n p d w := h_10
    subst h_10
    refine lv_istore (lv' := [(8, .int (zjo f rt fr n p d w)), (7, .int (nI w)), (6, .int (nI (4 ^ d))), (5, .int ((zsj f rt fr n p d jr w).1)), (0, .ref h), (1, .ref r), (2, .ref a), (3, .int (nI p)), (4, .int (nI d))]) hx hb dX2_seekJoke_40 hl (by decide) rfl (fun ls hl => ?_)
    refine lv_iload hx hb dX2_seekJoke_42 (lv_at hl 0 rfl) ?_
    refine lv_iload hx hb dX2_seekJoke_44 (lv_at hl 3 rfl) ?_
    refine lv_icmp_le (tgt := 59) hx hb dX2_seekJoke_46 (by decide) (fun c_12 => ?_) (fun c_12 => ?_)
    · have c_12 : (zjo f rt fr n p d w) ≤ ((zsj f rt fr n p d jr w).1) := c_12
      refine lv_iinc (v := nI (w + 1)) (lv' := [(7, .int (nI (w + 1))), (8, .int (zjo f rt fr n p d w)), (6, .int (nI (4 ^ d))), (5, .int ((zsj f rt fr n p d jr w).1)), (0, .ref h), (1, .ref r), (2, .ref a), (3, .int (nI p)), (4, .int (nI d))]) hx hb dX2_seekJoke_59 hl (k := 1) rfl (z_inc _ 1) (by decide) rfl (fun ls hl => ?_)
      refine lv_goto (tgt := 15) hx hb dX2_seekJoke_62 (by decide) ?_
      have e_13 : (zsj f rt fr n p d jr w).2 = (zsj f rt fr n p d jr (w + 1)).2 := by first | rw [zsj_s, if_pos (by assumption)] | rw [zsj_s, if_neg (by assumption)] | rfl
      have hP : va_P D vwCl [(h, .inr (2, [.ref a1, .int ((zsj f rt fr n p d jr (w + 1)).2)])), (a1, .inr (6, [.ref b1])), (b1, .inl (cI, 36, .inl g2_11)), (r, .inr (3, [.ref ro, .ref rn, .ref rr, .int rt, .int fr, .int pr, .int (nI n), .int (nI m)])), (a, .inr (6, [.ref b])), (b, .inl (cI, 36, .inl f))] H := Eq.subst (motive := fun zz_ => va_P D vwCl [(h, .inr (2, [.ref a1, .int zz_])), (a1, .inr (6, [.ref b1])), (b1, .inl (cI, 36, .inl g2_11)), (r, .inr (3, [.ref ro, .ref rn, .ref rr, .int rt, .int fr, .int pr, .int (nI n), .int (nI m)])), (a, .inr (6, [.ref b])), (b, .inl (cI, 36, .inl f))] H) e_13 hP
      have hD : va_D A [(h, .inr (2, [.ref a1, .int ((zsj f rt fr n p d jr (w + 1)).2)])), (a1, .inr (6, [.ref b1])), (b1, .inl (cI, 36, .inl g2_11)), (r, .inr (3, [.ref ro, .ref rn, .ref rr, .int rt, .int fr, .int pr, .int (nI n), .int (nI m)])), (a, .inr (6, [.ref b])), (b, .inl (cI, 36, .inl f))] := zD_of hD rfl
      have hl : lv_has ls 9 [(7, .int (nI (w + 1))), (6, .int (nI (4 ^ d))), (5, .int ((zsj f rt fr n p d jr w).1)), (0, .ref h), (1, .ref r), (2, .ref a), (3, .int (nI p)), (4, .int (nI d))] := lv_sub hl [0, 2, 3, 4, 5, 6, 7, 8] rfl
      have e_14 : (zsj f rt fr n p d jr w).1 = (zsj f rt fr n p d jr (w + 1)).1 := by first | rw [zsj_s, if_pos (by assumption)] | rw [zsj_s, if_neg (by assumption)] | rfl
      have hl : lv_has ls 9 [(7, .int (nI (w + 1))), (6, .int (nI (4 ^ d))), (5, .int ((zsj f rt fr n p d jr (w + 1)).1)), (0, .ref h), (1, .ref r), (2, .ref a), (3, .int (nI p)), (4, .int (nI d))] := Eq.subst (motive := fun zz_ => lv_has ls 9 [(7, .int (nI (w + 1))), (6, .int (nI (4 ^ d))), (5, .int zz_), (0, .ref h), (1, .ref r), (2, .ref a), (3, .int (nI p)), (4, .int (nI d))]) e_14 hl
      exact ih_3 (w + 1, g2_11) _ _ _ (by omega) ⟨hP, hD, hS, hl, (by first | assumption | omega)⟩
    · have c_12 : ¬ ((zjo f rt fr n p d w) ≤ ((zsj f rt fr n p d jr w).1)) := c_12
      refine lv_iload hx hb dX2_seekJoke_49 (lv_at hl 0 rfl) ?_
      refine lv_istore (lv' := [(5, .int (zjo f rt fr n p d w)), (8, .int (zjo f rt fr n p d w)), (7, .int (nI w)), (6, .int (nI (4 ^ d))), (0, .ref h), (1, .ref r), (2, .ref a), (3, .int (nI p)), (4, .int (nI d))]) hx hb dX2_seekJoke_51 hl (by decide) rfl (fun ls hl => ?_)
      refine lv_aload_n hx hb dX2_seekJoke_53 rfl (lv_at hl 4 rfl) ?_
      refine lv_iload hx hb dX2_seekJoke_54 (lv_at hl 2 rfl) ?_
      refine z_put (ci := 2) (v := .int (nI w)) Z zin2 tyX2 tyX2_ok nmX2 hP hD hS 0 rfl rfl 1 (by decide) zm171 rfl rfl rfl rfl (Nat.le_of_ble_eq_true rfl) dX2_seekJoke_56 (fun H locs hP hD hS => ?_)
      have hP : va_P D vwCl [(h, .inr (2, [.ref a1, .int (nI w)])), (a1, .inr (6, [.ref b1])), (b1, .inl (cI, 36, .inl g2_11)), (r, .inr (3, [.ref ro, .ref rn, .ref rr, .int rt, .int fr, .int pr, .int (nI n), .int (nI m)])), (a, .inr (6, [.ref b])), (b, .inl (cI, 36, .inl f))] H := hP
      have hD : va_D A [(h, .inr (2, [.ref a1, .int (nI w)])), (a1, .inr (6, [.ref b1])), (b1, .inl (cI, 36, .inl g2_11)), (r, .inr (3, [.ref ro, .ref rn, .ref rr, .int rt, .int fr, .int pr, .int (nI n), .int (nI m)])), (a, .inr (6, [.ref b])), (b, .inl (cI, 36, .inl f))] := hD
      refine lv_iinc (v := nI (w + 1)) (lv' := [(7, .int (nI (w + 1))), (5, .int (zjo f rt fr n p d w)), (8, .int (zjo f rt fr n p d w)), (6, .int (nI (4 ^ d))), (0, .ref h), (1, .ref r), (2, .ref a), (3, .int (nI p)), (4, .int (nI d))]) hx hb dX2_seekJoke_59 hl (k := 2) rfl (z_inc _ 1) (by decide) rfl (fun ls hl => ?_)
      refine lv_goto (tgt := 15) hx hb dX2_seekJoke_62 (by decide) ?_
      have e_15 : nI w = (zsj f rt fr n p d jr (w + 1)).2 := by first | rw [zsj_s, if_pos (by assumption)] | rw [zsj_s, if_neg (by assumption)] | rfl
      have hP : va_P D vwCl [(h, .inr (2, [.ref a1, .int ((zsj f rt fr n p d jr (w + 1)).2)])), (a1, .inr (6, [.ref b1])), (b1, .inl (cI, 36, .inl g2_11)), (r, .inr (3, [.ref ro, .ref rn, .ref rr, .int rt, .int fr, .int pr, .int (nI n), .int (nI m)])), (a, .inr (6, [.ref b])), (b, .inl (cI, 36, .inl f))] H := Eq.subst (motive := fun zz_ => va_P D vwCl [(h, .inr (2, [.ref a1, .int zz_])), (a1, .inr (6, [.ref b1])), (b1, .inl (cI, 36, .inl g2_11)), (r, .inr (3, [.ref ro, .ref rn, .ref rr, .int rt, .int fr, .int pr, .int (nI n), .int (nI m)])), (a, .inr (6, [.ref b])), (b, .inl (cI, 36, .inl f))] H) e_15 hP
      have hD : va_D A [(h, .inr (2, [.ref a1, .int ((zsj f rt fr n p d jr (w + 1)).2)])), (a1, .inr (6, [.ref b1])), (b1, .inl (cI, 36, .inl g2_11)), (r, .inr (3, [.ref ro, .ref rn, .ref rr, .int rt, .int fr, .int pr, .int (nI n), .int (nI m)])), (a, .inr (6, [.ref b])), (b, .inl (cI, 36, .inl f))] := zD_of hD rfl
      have hl : lv_has ls 9 [(7, .int (nI (w + 1))), (6, .int (nI (4 ^ d))), (5, .int (zjo f rt fr n p d w)), (0, .ref h), (1, .ref r), (2, .ref a), (3, .int (nI p)), (4, .int (nI d))] := lv_sub hl [0, 3, 1, 4, 5, 6, 7, 8] rfl
      have e_16 : zjo f rt fr n p d w = (zsj f rt fr n p d jr (w + 1)).1 := by first | rw [zsj_s, if_pos (by assumption)] | rw [zsj_s, if_neg (by assumption)] | rfl
      have hl : lv_has ls 9 [(7, .int (nI (w + 1))), (6, .int (nI (4 ^ d))), (5, .int ((zsj f rt fr n p d jr (w + 1)).1)), (0, .ref h), (1, .ref r), (2, .ref a), (3, .int (nI p)), (4, .int (nI d))] := Eq.subst (motive := fun zz_ => lv_has ls 9 [(7, .int (nI (w + 1))), (6, .int (nI (4 ^ d))), (5, .int zz_), (0, .ref h), (1, .ref r), (2, .ref a), (3, .int (nI p)), (4, .int (nI d))]) e_16 hl
      exact ih_3 (w + 1, g2_11) _ _ _ (by omega) ⟨hP, hD, hS, hl, (by first | assumption | omega)⟩

theorem dX2_jokeEvent_0 : decode cX2_jokeEvent 0 = .ok (.aload_n 0, 1) := by decide +kernel
theorem dX2_jokeEvent_1 : decode cX2_jokeEvent 1 = .ok (.getfield 18, 3) := by decide +kernel
theorem dX2_jokeEvent_4 : decode cX2_jokeEvent 4 = .ok (.iload_n 1, 1) := by decide +kernel
theorem dX2_jokeEvent_5 : decode cX2_jokeEvent 5 = .ok (.iload_n 2, 1) := by decide +kernel
theorem dX2_jokeEvent_6 : decode cX2_jokeEvent 6 = .ok (.invokestatic 47, 3) := by decide +kernel
theorem dX2_jokeEvent_9 : decode cX2_jokeEvent 9 = .ok (.ireturn, 1) := by decide +kernel
theorem zd_X2_jokeEvent : yX2_jokeEvent.cls ≠ "java/lang/invoke/MethodHandle" ∧ yX2_jokeEvent.cls ≠ "java/lang/invoke/VarHandle" ∧ (parseMethodDescriptor yX2_jokeEvent.desc).map (fun d => d.parameters.length) = some 2 := by decide +kernel
set_option maxHeartbeats 4000000 in
set_option maxRecDepth 100000 in
theorem zc_X2_jokeEvent (l : Launch) (D : va_G) (cI cZ : ClassId) (h : Nat) (a1 : Nat) (w : Nat) (d : Nat) (i : Nat) (hw : w < 2147483648) (hd : d ≤ 4) (hi : i < d) : zI l yX2_jokeEvent cX2_jokeEvent 3 .int 1 22 D cI cZ [.ref h, .int (nI d), .int (nI i)] [(h, .inr (2, [.ref a1, .int (nI w)]))] (fun (r : Int32) (u : Unit) => r = nI (zki w d i)) (fun (u : Unit) => [(h, .inr (2, [.ref a1, .int (nI w)]))]) := by
  refine zI_of (by decide) (Nat.le_of_ble_eq_true rfl) ?_
  intro pP eE sS mM aA bB mT cC A ls Z hP hD hS hl
  have hx := Z.1
  have hb := Z.2.1
  have hown := Z.2.2.2.2.2.1
  have hts := Z.2.2.2.2.1
  have Z : zAt pP sS mM aA mT cC D cI cZ A "SurpriseTax$Foresight" cX2_jokeEvent 3 (some .int) := Z
  have hl : lv_has ls 3 [(0, .ref h), (1, .int (nI d)), (2, .int (nI i))] := hl
  obtain ⟨H, hH⟩ : ∃ H, H = sS.heap := ⟨_, rfl⟩
  have hP : va_P D vwCl [(h, .inr (2, [.ref a1, .int (nI w)]))] H := by rw [hH]; exact hP
  have hS : va_S A sS.heap H [] := by rw [hH]; exact hS
  rw [← hH]
  clear hH
  obtain ⟨locs, hlo⟩ : ∃ q : List Loc, q = [] := ⟨_, rfl⟩
  rw [← hlo] at hS ⊢
  clear hlo
  refine lv_aload_n hx hb dX2_jokeEvent_0 rfl (lv_at hl 0 rfl) ?_
  refine z_get (ci := 2) (v := .int (nI w)) Z zin2 hP 0 rfl rfl 1 (by decide) zm171 rfl rfl dX2_jokeEvent_1 ?_
  refine lv_iload_n hx hb dX2_jokeEvent_4 rfl (lv_at hl 1 rfl) ?_
  refine lv_iload_n hx hb dX2_jokeEvent_5 rfl (lv_at hl 2 rfl) ?_
  refine z_callNi (As := [.int (nI w), .int (nI d), .int (nI i)]) (rest := []) Z hP hD hS hl.1 (zc_X8_kindAt l D cI cZ w d i (by omega) (by omega) (by omega)) zn30 zm473 zm30 zm474 zd_X8_kindAt ⟨Nat.le_of_ble_eq_true rfl, Nat.le_of_ble_eq_true rfl⟩ ⟨Nat.zero_le _, Nat.zero_le _⟩ [] rfl (by decide) (fun _ => rfl) rfl (Nat.le_of_ble_eq_true rfl) rfl dX2_jokeEvent_6 (fun r_1 u H locs h_2 hP hD hS => ?_)
  have hP : va_P D vwCl [(h, .inr (2, [.ref a1, .int (nI w)]))] H := hP
  have hD : va_D A [(h, .inr (2, [.ref a1, .int (nI w)]))] := hD
  have h_2 : r_1 = nI (zki w d i) := h_2
  subst h_2
  exact z_iret Z () rfl hP hS dX2_jokeEvent_9

theorem dX2_eventsUntilDebt_0 : decode cX2_eventsUntilDebt 0 = .ok (.aload_n 0, 1) := by decide +kernel
theorem dX2_eventsUntilDebt_1 : decode cX2_eventsUntilDebt 1 = .ok (.getfield 12, 3) := by decide +kernel
theorem dX2_eventsUntilDebt_4 : decode cX2_eventsUntilDebt 4 = .ok (.aload_n 2, 1) := by decide +kernel
theorem dX2_eventsUntilDebt_5 : decode cX2_eventsUntilDebt 5 = .ok (.invokevirtual 22, 3) := by decide +kernel
theorem dX2_eventsUntilDebt_8 : decode cX2_eventsUntilDebt 8 = .ok (.iconst 0, 1) := by decide +kernel
theorem dX2_eventsUntilDebt_9 : decode cX2_eventsUntilDebt 9 = .ok (.istore 4, 2) := by decide +kernel
theorem dX2_eventsUntilDebt_11 : decode cX2_eventsUntilDebt 11 = .ok (.iload 4, 2) := by decide +kernel
theorem dX2_eventsUntilDebt_13 : decode cX2_eventsUntilDebt 13 = .ok (.bipush 30, 2) := by decide +kernel
theorem dX2_eventsUntilDebt_15 : decode cX2_eventsUntilDebt 15 = .ok (.if_icmp .gt 33, 3) := by decide +kernel
theorem dX2_eventsUntilDebt_18 : decode cX2_eventsUntilDebt 18 = .ok (.aload_n 1, 1) := by decide +kernel
theorem dX2_eventsUntilDebt_19 : decode cX2_eventsUntilDebt 19 = .ok (.aload_n 0, 1) := by decide +kernel
theorem dX2_eventsUntilDebt_20 : decode cX2_eventsUntilDebt 20 = .ok (.getfield 12, 3) := by decide +kernel
theorem dX2_eventsUntilDebt_23 : decode cX2_eventsUntilDebt 23 = .ok (.invokevirtual 55, 3) := by decide +kernel
theorem dX2_eventsUntilDebt_26 : decode cX2_eventsUntilDebt 26 = .ok (.ifCond .eq 6, 3) := by decide +kernel
theorem dX2_eventsUntilDebt_29 : decode cX2_eventsUntilDebt 29 = .ok (.iload 4, 2) := by decide +kernel
theorem dX2_eventsUntilDebt_31 : decode cX2_eventsUntilDebt 31 = .ok (.ireturn, 1) := by decide +kernel
theorem dX2_eventsUntilDebt_32 : decode cX2_eventsUntilDebt 32 = .ok (.aload_n 1, 1) := by decide +kernel
theorem dX2_eventsUntilDebt_33 : decode cX2_eventsUntilDebt 33 = .ok (.aload_n 0, 1) := by decide +kernel
theorem dX2_eventsUntilDebt_34 : decode cX2_eventsUntilDebt 34 = .ok (.getfield 12, 3) := by decide +kernel
theorem dX2_eventsUntilDebt_37 : decode cX2_eventsUntilDebt 37 = .ok (.iload_n 3, 1) := by decide +kernel
theorem dX2_eventsUntilDebt_38 : decode cX2_eventsUntilDebt 38 = .ok (.invokevirtual 26, 3) := by decide +kernel
theorem dX2_eventsUntilDebt_41 : decode cX2_eventsUntilDebt 41 = .ok (.pop, 1) := by decide +kernel
theorem dX2_eventsUntilDebt_42 : decode cX2_eventsUntilDebt 42 = .ok (.iinc 4 1, 3) := by decide +kernel
theorem dX2_eventsUntilDebt_45 : decode cX2_eventsUntilDebt 45 = .ok (.goto (-34), 3) := by decide +kernel
theorem dX2_eventsUntilDebt_48 : decode cX2_eventsUntilDebt 48 = .ok (.bipush (-9), 2) := by decide +kernel
theorem dX2_eventsUntilDebt_50 : decode cX2_eventsUntilDebt 50 = .ok (.ireturn, 1) := by decide +kernel
theorem zd_X2_eventsUntilDebt : yX2_eventsUntilDebt.cls ≠ "java/lang/invoke/MethodHandle" ∧ yX2_eventsUntilDebt.cls ≠ "java/lang/invoke/VarHandle" ∧ (parseMethodDescriptor yX2_eventsUntilDebt.desc).map (fun d => d.parameters.length) = some 3 := by decide +kernel
set_option maxHeartbeats 4000000 in
set_option maxRecDepth 100000 in
theorem zc_X2_eventsUntilDebt (l : Launch) (D : va_G) (cI cZ : ClassId) (h : Nat) (jr : Int32) (a1 : Nat) (b1 : Nat) (g : Nat → Int32) (r : Nat) (ro : Nat) (rn : Nat) (rr : Nat) (rt : Int32) (fr : Int32) (pr : Int32) (n : Nat) (m : Nat) (a : Nat) (b : Nat) (f : Nat → Int32) (k : Nat) (hn : n ≤ 5) (hk : k < 4) : zI l yX2_eventsUntilDebt cX2_eventsUntilDebt 5 .int 4 88 D cI cZ [.ref h, .ref r, .ref a, .int (nI k)] [(h, .inr (2, [.ref a1, .int jr])), (a1, .inr (6, [.ref b1])), (b1, .inl (cI, 36, .inl g)), (r, .inr (3, [.ref ro, .ref rn, .ref rr, .int rt, .int fr, .int pr, .int (nI n), .int (nI m)])), (a, .inr (6, [.ref b])), (b, .inl (cI, 36, .inl f))] (fun (r : Int32) (u : (Nat → Int32)) => r = zeu f rt fr n k 31 0) (fun (u : (Nat → Int32)) => [(h, .inr (2, [.ref a1, .int jr])), (a1, .inr (6, [.ref b1])), (b1, .inl (cI, 36, .inl u)), (r, .inr (3, [.ref ro, .ref rn, .ref rr, .int rt, .int fr, .int pr, .int (nI n), .int (nI m)])), (a, .inr (6, [.ref b])), (b, .inl (cI, 36, .inl f))]) := by
  refine zI_of (by decide) (Nat.le_of_ble_eq_true rfl) ?_
  intro pP eE sS mM aA bB mT cC A ls Z hP hD hS hl
  have hx := Z.1
  have hb := Z.2.1
  have hown := Z.2.2.2.2.2.1
  have hts := Z.2.2.2.2.1
  have Z : zAt pP sS mM aA mT cC D cI cZ A "SurpriseTax$Foresight" cX2_eventsUntilDebt 5 (some .int) := Z
  have hl : lv_has ls 5 [(0, .ref h), (1, .ref r), (2, .ref a), (3, .int (nI k))] := hl
  obtain ⟨H, hH⟩ : ∃ H, H = sS.heap := ⟨_, rfl⟩
  have hP : va_P D vwCl [(h, .inr (2, [.ref a1, .int jr])), (a1, .inr (6, [.ref b1])), (b1, .inl (cI, 36, .inl g)), (r, .inr (3, [.ref ro, .ref rn, .ref rr, .int rt, .int fr, .int pr, .int (nI n), .int (nI m)])), (a, .inr (6, [.ref b])), (b, .inl (cI, 36, .inl f))] H := by rw [hH]; exact hP
  have hS : va_S A sS.heap H [] := by rw [hH]; exact hS
  rw [← hH]
  clear hH
  obtain ⟨locs, hlo⟩ : ∃ q : List Loc, q = [] := ⟨_, rfl⟩
  rw [← hlo] at hS ⊢
  clear hlo
  refine lv_aload_n hx hb dX2_eventsUntilDebt_0 rfl (lv_at hl 0 rfl) ?_
  refine z_get (ci := 2) (v := .ref a1) Z zin2 hP 0 rfl rfl 0 (by decide) zm170 rfl rfl dX2_eventsUntilDebt_1 ?_
  refine lv_aload_n hx hb dX2_eventsUntilDebt_4 rfl (lv_at hl 2 rfl) ?_
  refine z_callVv (As := [.ref a]) (rest := []) (ci := 6) (k0 := 0) Z hP hD hS hl.1 (zc_X6_copyFrom l D cI cZ a1 b1 g a b f ) zm485 zm451 zm452 zm33 zm453 ⟨rfl, zd_X6_copyFrom⟩ ⟨Nat.le_of_ble_eq_true rfl, Nat.le_of_ble_eq_true rfl⟩ ⟨Nat.zero_le _, Nat.zero_le _⟩ [1, 2, 4, 5] rfl (by decide) rfl rfl rfl (fun _ => rfl) rfl (Nat.le_of_ble_eq_true rfl) rfl dX2_eventsUntilDebt_5 (fun u H locs h_2 hP hD hS => ?_)
  have hP : va_P D vwCl [(h, .inr (2, [.ref a1, .int jr])), (a1, .inr (6, [.ref b1])), (b1, .inl (cI, 36, .inl f)), (r, .inr (3, [.ref ro, .ref rn, .ref rr, .int rt, .int fr, .int pr, .int (nI n), .int (nI m)])), (a, .inr (6, [.ref b])), (b, .inl (cI, 36, .inl f))] H := hP
  have hD : va_D A [(h, .inr (2, [.ref a1, .int jr])), (a1, .inr (6, [.ref b1])), (b1, .inl (cI, 36, .inl f)), (r, .inr (3, [.ref ro, .ref rn, .ref rr, .int rt, .int fr, .int pr, .int (nI n), .int (nI m)])), (a, .inr (6, [.ref b])), (b, .inl (cI, 36, .inl f))] := hD
  refine lv_iconst (v := nI 0) hx hb dX2_eventsUntilDebt_8 (by decide) ?_
  refine lv_istore (lv' := [(4, .int (nI 0)), (0, .ref h), (1, .ref r), (2, .ref a), (3, .int (nI k))]) hx hb dX2_eventsUntilDebt_9 hl (by decide) rfl (fun ls hl => ?_)
  have e_4 : f = zit f rt fr n k 0 := by (first | rfl | (simp []; done) | (simp_all []; done))
  have hP : va_P D vwCl [(h, .inr (2, [.ref a1, .int jr])), (a1, .inr (6, [.ref b1])), (b1, .inl (cI, 36, .inl (zit f rt fr n k 0))), (r, .inr (3, [.ref ro, .ref rn, .ref rr, .int rt, .int fr, .int pr, .int (nI n), .int (nI m)])), (a, .inr (6, [.ref b])), (b, .inl (cI, 36, .inl f))] H := Eq.subst (motive := fun zz_ => va_P D vwCl [(h, .inr (2, [.ref a1, .int jr])), (a1, .inr (6, [.ref b1])), (b1, .inl (cI, 36, .inl zz_)), (r, .inr (3, [.ref ro, .ref rn, .ref rr, .int rt, .int fr, .int pr, .int (nI n), .int (nI m)])), (a, .inr (6, [.ref b])), (b, .inl (cI, 36, .inl f))] H) e_4 hP
  have hD : va_D A [(h, .inr (2, [.ref a1, .int jr])), (a1, .inr (6, [.ref b1])), (b1, .inl (cI, 36, .inl (zit f rt fr n k 0))), (r, .inr (3, [.ref ro, .ref rn, .ref rr, .int rt, .int fr, .int pr, .int (nI n), .int (nI m)])), (a, .inr (6, [.ref b])), (b, .inl (cI, 36, .inl f))] := zD_of hD rfl
  have hl : lv_has ls 5 [(4, .int (nI 0)), (0, .ref h), (1, .ref r), (2, .ref a), (3, .int (nI k))] := lv_sub hl [0, 1, 2, 3, 4] rfl
  refine z_loop (fun i H locs ls => va_P D vwCl [(h, .inr (2, [.ref a1, .int jr])), (a1, .inr (6, [.ref b1])), (b1, .inl (cI, 36, .inl (zit f rt fr n k i))), (r, .inr (3, [.ref ro, .ref rn, .ref rr, .int rt, .int fr, .int pr, .int (nI n), .int (nI m)])), (a, .inr (6, [.ref b])), (b, .inl (cI, 36, .inl f))] H ∧ va_D A [(h, .inr (2, [.ref a1, .int jr])), (a1, .inr (6, [.ref b1])), (b1, .inl (cI, 36, .inl (zit f rt fr n k i))), (r, .inr (3, [.ref ro, .ref rn, .ref rr, .int rt, .int fr, .int pr, .int (nI n), .int (nI m)])), (a, .inr (6, [.ref b])), (b, .inl (cI, 36, .inl f))] ∧ va_S A sS.heap H locs ∧ lv_has ls 5 [(4, .int (nI i)), (0, .ref h), (1, .ref r), (2, .ref a), (3, .int (nI k))] ∧ (zeu f rt fr n k (31 - i) i = zeu f rt fr n k 31 0)) (31) (lo := 0) (by omega) ⟨hP, hD, hS, hl, (by rfl)⟩ (fun i hi_i ih_3 H locs ls hI => ?_)
  obtain ⟨hP, hD, hS, hl, hv11_0⟩ := hI
  have hv11_0 : zeu f rt fr n k (31 - i) i = zeu f rt fr n k 31 0 := hv11_0
  have hP : va_P D vwCl [(h, .inr (2, [.ref a1, .int jr])), (a1, .inr (6, [.ref b1])), (b1, .inl (cI, 36, .inl (zit f rt fr n k i))), (r, .inr (3, [.ref ro, .ref rn, .ref rr, .int rt, .int fr, .int pr, .int (nI n), .int (nI m)])), (a, .inr (6, [.ref b])), (b, .inl (cI, 36, .inl f))] H := hP
  have hD : va_D A [(h, .inr (2, [.ref a1, .int jr])), (a1, .inr (6, [.ref b1])), (b1, .inl (cI, 36, .inl (zit f rt fr n k i))), (r, .inr (3, [.ref ro, .ref rn, .ref rr, .int rt, .int fr, .int pr, .int (nI n), .int (nI m)])), (a, .inr (6, [.ref b])), (b, .inl (cI, 36, .inl f))] := hD
  have hl : lv_has ls 5 [(4, .int (nI i)), (0, .ref h), (1, .ref r), (2, .ref a), (3, .int (nI k))] := hl
  refine lv_iload hx hb dX2_eventsUntilDebt_11 (lv_at hl 0 rfl) ?_
  refine lv_bipush (v := nI 30) hx hb dX2_eventsUntilDebt_13 (by decide) ?_
  refine lv_icmp_gt (tgt := 48) hx hb dX2_eventsUntilDebt_15 (by decide) (fun c_5 => ?_) (fun c_5 => ?_)
  · have c_5 := zlt (i := 30) (j := i) (by decide) (by omega) c_5
    refine lv_bipush (v := -9) hx hb dX2_eventsUntilDebt_48 (by decide) ?_
    exact z_iret Z (zit f rt fr n k i) (by rw [← hv11_0, show 31 - i = 0 by omega]; rfl) hP hS dX2_eventsUntilDebt_50
  · have c_5 := znlt (i := 30) (j := i) (by decide) (by omega) c_5
    refine lv_aload_n hx hb dX2_eventsUntilDebt_18 rfl (lv_at hl 2 rfl) ?_
    refine lv_aload_n hx hb dX2_eventsUntilDebt_19 rfl (lv_at hl 1 rfl) ?_
    refine z_get (ci := 2) (v := .ref a1) Z zin2 hP 0 rfl rfl 0 (by decide) zm170 rfl rfl dX2_eventsUntilDebt_20 ?_
    refine z_callVi (As := [.ref a1]) (rest := []) (ci := 3) (k0 := 0) Z hP hD hS hl.1 (zc_X3_debtors l D cI cZ r ro rn rr rt fr pr n m a1 b1 (zit f rt fr n k i) (by omega)) zm507 zm310 zm311 zm32 zm312 ⟨rfl, zd_X3_debtors⟩ ⟨Nat.le_of_ble_eq_true rfl, Nat.le_of_ble_eq_true rfl⟩ ⟨Nat.zero_le _, Nat.zero_le _⟩ [3, 1, 2] rfl (by decide) rfl rfl rfl (fun _ => rfl) rfl (Nat.le_of_ble_eq_true rfl) rfl dX2_eventsUntilDebt_23 (fun r_6 u H locs h_7 hP hD hS => ?_)
    have hP : va_P D vwCl [(h, .inr (2, [.ref a1, .int jr])), (a1, .inr (6, [.ref b1])), (b1, .inl (cI, 36, .inl (zit f rt fr n k i))), (r, .inr (3, [.ref ro, .ref rn, .ref rr, .int rt, .int fr, .int pr, .int (nI n), .int (nI m)])), (a, .inr (6, [.ref b])), (b, .inl (cI, 36, .inl f))] H := hP
    have hD : va_D A [(h, .inr (2, [.ref a1, .int jr])), (a1, .inr (6, [.ref b1])), (b1, .inl (cI, 36, .inl (zit f rt fr n k i))), (r, .inr (3, [.ref ro, .ref rn, .ref rr, .int rt, .int fr, .int pr, .int (nI n), .int (nI m)])), (a, .inr (6, [.ref b])), (b, .inl (cI, 36, .inl f))] := hD
    have h_7 : r_6 = zdb (zit f rt fr n k i) n := h_7
    subst h_7
    refine lv_if_eq (tgt := 32) hx hb dX2_eventsUntilDebt_26 (by decide) (fun c_8 => ?_) (fun c_8 => ?_)
    · have c_8 : (zdb (zit f rt fr n k i) n) = 0 := c_8
      refine lv_aload_n hx hb dX2_eventsUntilDebt_32 rfl (lv_at hl 2 rfl) ?_
      refine lv_aload_n hx hb dX2_eventsUntilDebt_33 rfl (lv_at hl 1 rfl) ?_
      refine z_get (ci := 2) (v := .ref a1) Z zin2 hP 0 rfl rfl 0 (by decide) zm170 rfl rfl dX2_eventsUntilDebt_34 ?_
      refine lv_iload_n hx hb dX2_eventsUntilDebt_37 rfl (lv_at hl 4 rfl) ?_
      refine z_callVi (As := [.ref a1, .int (nI k)]) (rest := []) (ci := 3) (k0 := 0) Z hP hD hS hl.1 (zc_X3_come l D cI cZ r ro rn rr rt fr pr n m a1 b1 (zit f rt fr n k i) k (by omega) (by omega)) zm490 zm388 zm389 zm32 zm390 ⟨rfl, zd_X3_come⟩ ⟨Nat.le_of_ble_eq_true rfl, Nat.le_of_ble_eq_true rfl⟩ ⟨Nat.zero_le _, Nat.zero_le _⟩ [3, 1, 2] rfl (by decide) rfl rfl rfl (fun _ => rfl) rfl (Nat.le_of_ble_eq_true rfl) rfl dX2_eventsUntilDebt_38 (fun r_9 u H locs h_10 hP hD hS => ?_)
      have hP : va_P D vwCl [(h, .inr (2, [.ref a1, .int jr])), (a1, .inr (6, [.ref b1])), (b1, .inl (cI, 36, .inl (zcome (zit f rt fr n k i) rt fr n k))), (r, .inr (3, [.ref ro, .ref rn, .ref rr, .int rt, .int fr, .int pr, .int (nI n), .int (nI m)])), (a, .inr (6, [.ref b])), (b, .inl (cI, 36, .inl f))] H := hP
      have hD : va_D A [(h, .inr (2, [.ref a1, .int jr])), (a1, .inr (6, [.ref b1])), (b1, .inl (cI, 36, .inl (zcome (zit f rt fr n k i) rt fr n k))), (r, .inr (3, [.ref ro, .ref rn, .ref rr, .int rt, .int fr, .int pr, .int (nI n), .int (nI m)])), (a, .inr (6, [.ref b])), (b, .inl (cI, 36, .inl f))] := hD
      have h_10 : r_9 = zcs (zit f rt fr n k i) rt fr k n := h_10
      subst h_10
      refine lv_pop hx hb dX2_eventsUntilDebt_41 rfl ?_
      refine lv_iinc (v := nI (i + 1)) (lv' := [(4, .int (nI (i + 1))), (0, .ref h), (1, .ref r), (2, .ref a), (3, .int (nI k))]) hx hb dX2_eventsUntilDebt_42 hl (k := 0) rfl (z_inc _ 1) (by decide) rfl (fun ls hl => ?_)
      refine lv_goto (tgt := 11) hx hb dX2_eventsUntilDebt_45 (by decide) ?_
      have e_11 : zcome (zit f rt fr n k i) rt fr n k = zit f rt fr n k (i + 1) := by (first | rfl | (simp [c_5, c_8]; done) | (simp_all []; done))
      have hP : va_P D vwCl [(h, .inr (2, [.ref a1, .int jr])), (a1, .inr (6, [.ref b1])), (b1, .inl (cI, 36, .inl (zit f rt fr n k (i + 1)))), (r, .inr (3, [.ref ro, .ref rn, .ref rr, .int rt, .int fr, .int pr, .int (nI n), .int (nI m)])), (a, .inr (6, [.ref b])), (b, .inl (cI, 36, .inl f))] H := Eq.subst (motive := fun zz_ => va_P D vwCl [(h, .inr (2, [.ref a1, .int jr])), (a1, .inr (6, [.ref b1])), (b1, .inl (cI, 36, .inl zz_)), (r, .inr (3, [.ref ro, .ref rn, .ref rr, .int rt, .int fr, .int pr, .int (nI n), .int (nI m)])), (a, .inr (6, [.ref b])), (b, .inl (cI, 36, .inl f))] H) e_11 hP
      have hD : va_D A [(h, .inr (2, [.ref a1, .int jr])), (a1, .inr (6, [.ref b1])), (b1, .inl (cI, 36, .inl (zit f rt fr n k (i + 1)))), (r, .inr (3, [.ref ro, .ref rn, .ref rr, .int rt, .int fr, .int pr, .int (nI n), .int (nI m)])), (a, .inr (6, [.ref b])), (b, .inl (cI, 36, .inl f))] := zD_of hD rfl
      have hl : lv_has ls 5 [(4, .int (nI (i + 1))), (0, .ref h), (1, .ref r), (2, .ref a), (3, .int (nI k))] := lv_sub hl [0, 1, 2, 3, 4] rfl
      exact ih_3 _ _ _ (by omega) ⟨hP, hD, hS, hl, (by rw [← hv11_0, show 31 - i = (31 - (i + 1)) + 1 by omega]; rw [zeu_s, if_pos (by assumption)])⟩
    · have c_8 : ¬ ((zdb (zit f rt fr n k i) n) = 0) := c_8
      refine lv_iload hx hb dX2_eventsUntilDebt_29 (lv_at hl 0 rfl) ?_
      exact z_iret Z (zit f rt fr n k i) (by rw [← hv11_0, show 31 - i = (31 - (i + 1)) + 1 by omega]; rw [zeu_s, if_neg (by assumption)]) hP hS dX2_eventsUntilDebt_31

theorem dX2_nearestLaw_0 : decode cX2_nearestLaw 0 = .ok (.bipush (-9), 2) := by decide +kernel
theorem dX2_nearestLaw_2 : decode cX2_nearestLaw 2 = .ok (.istore 4, 2) := by decide +kernel
theorem dX2_nearestLaw_4 : decode cX2_nearestLaw 4 = .ok (.bipush 20, 2) := by decide +kernel
theorem dX2_nearestLaw_6 : decode cX2_nearestLaw 6 = .ok (.istore 5, 2) := by decide +kernel
theorem dX2_nearestLaw_8 : decode cX2_nearestLaw 8 = .ok (.iconst 0, 1) := by decide +kernel
theorem dX2_nearestLaw_9 : decode cX2_nearestLaw 9 = .ok (.istore 6, 2) := by decide +kernel
theorem dX2_nearestLaw_11 : decode cX2_nearestLaw 11 = .ok (.iload 6, 2) := by decide +kernel
theorem dX2_nearestLaw_13 : decode cX2_nearestLaw 13 = .ok (.bipush 10, 2) := by decide +kernel
theorem dX2_nearestLaw_15 : decode cX2_nearestLaw 15 = .ok (.if_icmp .ge 82, 3) := by decide +kernel
theorem dX2_nearestLaw_18 : decode cX2_nearestLaw 18 = .ok (.iconst 0, 1) := by decide +kernel
theorem dX2_nearestLaw_19 : decode cX2_nearestLaw 19 = .ok (.istore 7, 2) := by decide +kernel
theorem dX2_nearestLaw_21 : decode cX2_nearestLaw 21 = .ok (.iload 7, 2) := by decide +kernel
theorem dX2_nearestLaw_23 : decode cX2_nearestLaw 23 = .ok (.bipush 10, 2) := by decide +kernel
theorem dX2_nearestLaw_25 : decode cX2_nearestLaw 25 = .ok (.if_icmp .ge 66, 3) := by decide +kernel
theorem dX2_nearestLaw_28 : decode cX2_nearestLaw 28 = .ok (.iload 6, 2) := by decide +kernel
theorem dX2_nearestLaw_30 : decode cX2_nearestLaw 30 = .ok (.aload_n 1, 1) := by decide +kernel
theorem dX2_nearestLaw_31 : decode cX2_nearestLaw 31 = .ok (.getfield 59, 3) := by decide +kernel
theorem dX2_nearestLaw_34 : decode cX2_nearestLaw 34 = .ok (.isub, 1) := by decide +kernel
theorem dX2_nearestLaw_35 : decode cX2_nearestLaw 35 = .ok (.invokestatic 62, 3) := by decide +kernel
theorem dX2_nearestLaw_38 : decode cX2_nearestLaw 38 = .ok (.iload 7, 2) := by decide +kernel
theorem dX2_nearestLaw_40 : decode cX2_nearestLaw 40 = .ok (.aload_n 1, 1) := by decide +kernel
theorem dX2_nearestLaw_41 : decode cX2_nearestLaw 41 = .ok (.getfield 67, 3) := by decide +kernel
theorem dX2_nearestLaw_44 : decode cX2_nearestLaw 44 = .ok (.isub, 1) := by decide +kernel
theorem dX2_nearestLaw_45 : decode cX2_nearestLaw 45 = .ok (.invokestatic 62, 3) := by decide +kernel
theorem dX2_nearestLaw_48 : decode cX2_nearestLaw 48 = .ok (.iadd, 1) := by decide +kernel
theorem dX2_nearestLaw_49 : decode cX2_nearestLaw 49 = .ok (.istore 8, 2) := by decide +kernel
theorem dX2_nearestLaw_51 : decode cX2_nearestLaw 51 = .ok (.iload 8, 2) := by decide +kernel
theorem dX2_nearestLaw_53 : decode cX2_nearestLaw 53 = .ok (.iload 5, 2) := by decide +kernel
theorem dX2_nearestLaw_55 : decode cX2_nearestLaw 55 = .ok (.if_icmp .ge 30, 3) := by decide +kernel
theorem dX2_nearestLaw_58 : decode cX2_nearestLaw 58 = .ok (.aload_n 1, 1) := by decide +kernel
theorem dX2_nearestLaw_59 : decode cX2_nearestLaw 59 = .ok (.aload_n 2, 1) := by decide +kernel
theorem dX2_nearestLaw_60 : decode cX2_nearestLaw 60 = .ok (.iload_n 3, 1) := by decide +kernel
theorem dX2_nearestLaw_61 : decode cX2_nearestLaw 61 = .ok (.iload 6, 2) := by decide +kernel
theorem dX2_nearestLaw_63 : decode cX2_nearestLaw 63 = .ok (.iload 7, 2) := by decide +kernel
theorem dX2_nearestLaw_65 : decode cX2_nearestLaw 65 = .ok (.invokevirtual 70, 3) := by decide +kernel
theorem dX2_nearestLaw_68 : decode cX2_nearestLaw 68 = .ok (.ifCond .eq 17, 3) := by decide +kernel
theorem dX2_nearestLaw_71 : decode cX2_nearestLaw 71 = .ok (.iload 8, 2) := by decide +kernel
theorem dX2_nearestLaw_73 : decode cX2_nearestLaw 73 = .ok (.istore 5, 2) := by decide +kernel
theorem dX2_nearestLaw_75 : decode cX2_nearestLaw 75 = .ok (.bipush 10, 2) := by decide +kernel
theorem dX2_nearestLaw_77 : decode cX2_nearestLaw 77 = .ok (.iload 6, 2) := by decide +kernel
theorem dX2_nearestLaw_79 : decode cX2_nearestLaw 79 = .ok (.imul, 1) := by decide +kernel
theorem dX2_nearestLaw_80 : decode cX2_nearestLaw 80 = .ok (.iload 7, 2) := by decide +kernel
theorem dX2_nearestLaw_82 : decode cX2_nearestLaw 82 = .ok (.iadd, 1) := by decide +kernel
theorem dX2_nearestLaw_83 : decode cX2_nearestLaw 83 = .ok (.istore 4, 2) := by decide +kernel
theorem dX2_nearestLaw_85 : decode cX2_nearestLaw 85 = .ok (.iinc 7 1, 3) := by decide +kernel
theorem dX2_nearestLaw_88 : decode cX2_nearestLaw 88 = .ok (.goto (-67), 3) := by decide +kernel
theorem dX2_nearestLaw_91 : decode cX2_nearestLaw 91 = .ok (.iinc 6 1, 3) := by decide +kernel
theorem dX2_nearestLaw_94 : decode cX2_nearestLaw 94 = .ok (.goto (-83), 3) := by decide +kernel
theorem dX2_nearestLaw_97 : decode cX2_nearestLaw 97 = .ok (.iload 4, 2) := by decide +kernel
theorem dX2_nearestLaw_99 : decode cX2_nearestLaw 99 = .ok (.ireturn, 1) := by decide +kernel
theorem zd_X2_nearestLaw : yX2_nearestLaw.cls ≠ "java/lang/invoke/MethodHandle" ∧ yX2_nearestLaw.cls ≠ "java/lang/invoke/VarHandle" ∧ (parseMethodDescriptor yX2_nearestLaw.desc).map (fun d => d.parameters.length) = some 3 := by decide +kernel
set_option maxHeartbeats 4000000 in
set_option maxRecDepth 100000 in
theorem zc_X2_nearestLaw (l : Launch) (D : va_G) (cI cZ : ClassId) (h : Nat) (jr : Int32) (a1 : Nat) (r : Nat) (ro : Nat) (rn : Nat) (rr : Nat) (rt : Int32) (fr : Int32) (pr : Int32) (n : Nat) (m : Nat) (a : Nat) (b : Nat) (f : Nat → Int32) (k : Nat) (hn : n ≤ 5) (hk : k < 4) : zI l yX2_nearestLaw cX2_nearestLaw 9 .int 3 64 D cI cZ [.ref h, .ref r, .ref a, .int (nI k)] [(h, .inr (2, [.ref a1, .int jr])), (r, .inr (3, [.ref ro, .ref rn, .ref rr, .int rt, .int fr, .int pr, .int (nI n), .int (nI m)])), (a, .inr (6, [.ref b])), (b, .inl (cI, 36, .inl f))] (fun (r : Int32) (u : Unit) => r = (znr f rt fr n k 10).1) (fun (u : Unit) => [(h, .inr (2, [.ref a1, .int jr])), (r, .inr (3, [.ref ro, .ref rn, .ref rr, .int rt, .int fr, .int pr, .int (nI n), .int (nI m)])), (a, .inr (6, [.ref b])), (b, .inl (cI, 36, .inl f))]) := by
  refine zI_of (by decide) (Nat.le_of_ble_eq_true rfl) ?_
  intro pP eE sS mM aA bB mT cC A ls Z hP hD hS hl
  have hx := Z.1
  have hb := Z.2.1
  have hown := Z.2.2.2.2.2.1
  have hts := Z.2.2.2.2.1
  have Z : zAt pP sS mM aA mT cC D cI cZ A "SurpriseTax$Foresight" cX2_nearestLaw 9 (some .int) := Z
  have hl : lv_has ls 9 [(0, .ref h), (1, .ref r), (2, .ref a), (3, .int (nI k))] := hl
  obtain ⟨H, hH⟩ : ∃ H, H = sS.heap := ⟨_, rfl⟩
  have hP : va_P D vwCl [(h, .inr (2, [.ref a1, .int jr])), (r, .inr (3, [.ref ro, .ref rn, .ref rr, .int rt, .int fr, .int pr, .int (nI n), .int (nI m)])), (a, .inr (6, [.ref b])), (b, .inl (cI, 36, .inl f))] H := by rw [hH]; exact hP
  have hS : va_S A sS.heap H [] := by rw [hH]; exact hS
  rw [← hH]
  clear hH
  obtain ⟨locs, hlo⟩ : ∃ q : List Loc, q = [] := ⟨_, rfl⟩
  rw [← hlo] at hS ⊢
  clear hlo
  refine lv_bipush (v := -9) hx hb dX2_nearestLaw_0 (by decide) ?_
  refine lv_istore (lv' := [(4, .int (-9)), (0, .ref h), (1, .ref r), (2, .ref a), (3, .int (nI k))]) hx hb dX2_nearestLaw_2 hl (by decide) rfl (fun ls hl => ?_)
  refine lv_bipush (v := nI 20) hx hb dX2_nearestLaw_4 (by decide) ?_
  refine lv_istore (lv' := [(5, .int (nI 20)), (4, .int (-9)), (0, .ref h), (1, .ref r), (2, .ref a), (3, .int (nI k))]) hx hb dX2_nearestLaw_6 hl (by decide) rfl (fun ls hl => ?_)
  refine lv_iconst (v := nI 0) hx hb dX2_nearestLaw_8 (by decide) ?_
  refine lv_istore (lv' := [(6, .int (nI 0)), (5, .int (nI 20)), (4, .int (-9)), (0, .ref h), (1, .ref r), (2, .ref a), (3, .int (nI k))]) hx hb dX2_nearestLaw_9 hl (by decide) rfl (fun ls hl => ?_)
  have hl : lv_has ls 9 [(6, .int (nI 0)), (5, .int (nI 20)), (4, .int (-9)), (0, .ref h), (1, .ref r), (2, .ref a), (3, .int (nI k))] := lv_sub hl [0, 1, 2, 3, 4, 5, 6] rfl
  have e_2 : nI 20 = (znr f rt fr n k 0).2 := by rfl
  have hl : lv_has ls 9 [(6, .int (nI 0)), (5, .int ((znr f rt fr n k 0).2)), (4, .int (-9)), (0, .ref h), (1, .ref r), (2, .ref a), (3, .int (nI k))] := Eq.subst (motive := fun zz_ => lv_has ls 9 [(6, .int (nI 0)), (5, .int zz_), (4, .int (-9)), (0, .ref h), (1, .ref r), (2, .ref a), (3, .int (nI k))]) e_2 hl
  have e_3 : -9 = (znr f rt fr n k 0).1 := by rfl
  have hl : lv_has ls 9 [(6, .int (nI 0)), (5, .int ((znr f rt fr n k 0).2)), (4, .int ((znr f rt fr n k 0).1)), (0, .ref h), (1, .ref r), (2, .ref a), (3, .int (nI k))] := Eq.subst (motive := fun zz_ => lv_has ls 9 [(6, .int (nI 0)), (5, .int ((znr f rt fr n k 0).2)), (4, .int zz_), (0, .ref h), (1, .ref r), (2, .ref a), (3, .int (nI k))]) e_3 hl
  refine z_loop (fun x H locs ls => va_P D vwCl [(h, .inr (2, [.ref a1, .int jr])), (r, .inr (3, [.ref ro, .ref rn, .ref rr, .int rt, .int fr, .int pr, .int (nI n), .int (nI m)])), (a, .inr (6, [.ref b])), (b, .inl (cI, 36, .inl f))] H ∧ va_D A [(h, .inr (2, [.ref a1, .int jr])), (r, .inr (3, [.ref ro, .ref rn, .ref rr, .int rt, .int fr, .int pr, .int (nI n), .int (nI m)])), (a, .inr (6, [.ref b])), (b, .inl (cI, 36, .inl f))] ∧ va_S A sS.heap H locs ∧ lv_has ls 9 [(6, .int (nI x)), (5, .int ((znr f rt fr n k x).2)), (4, .int ((znr f rt fr n k x).1)), (0, .ref h), (1, .ref r), (2, .ref a), (3, .int (nI k))]) (10) (lo := 0) (by omega) ⟨hP, hD, hS, hl⟩ (fun x hi_x ih_1 H locs ls hI => ?_)
  obtain ⟨hP, hD, hS, hl⟩ := hI
  have hP : va_P D vwCl [(h, .inr (2, [.ref a1, .int jr])), (r, .inr (3, [.ref ro, .ref rn, .ref rr, .int rt, .int fr, .int pr, .int (nI n), .int (nI m)])), (a, .inr (6, [.ref b])), (b, .inl (cI, 36, .inl f))] H := hP
  have hD : va_D A [(h, .inr (2, [.ref a1, .int jr])), (r, .inr (3, [.ref ro, .ref rn, .ref rr, .int rt, .int fr, .int pr, .int (nI n), .int (nI m)])), (a, .inr (6, [.ref b])), (b, .inl (cI, 36, .inl f))] := hD
  have hl : lv_has ls 9 [(6, .int (nI x)), (5, .int ((znr f rt fr n k x).2)), (4, .int ((znr f rt fr n k x).1)), (0, .ref h), (1, .ref r), (2, .ref a), (3, .int (nI k))] := hl
  refine lv_iload hx hb dX2_nearestLaw_11 (lv_at hl 0 rfl) ?_
  refine lv_bipush (v := nI 10) hx hb dX2_nearestLaw_13 (by decide) ?_
  refine lv_icmp_ge (tgt := 97) hx hb dX2_nearestLaw_15 (by decide) (fun c_4 => ?_) (fun c_4 => ?_)
  · have c_4 := zle (i := 10) (j := x) (by decide) (by omega) c_4
    have hE_ : 10 = x := by omega
    subst hE_
    refine lv_iload hx hb dX2_nearestLaw_97 (lv_at hl 2 rfl) ?_
    exact z_iret Z () rfl hP hS dX2_nearestLaw_99
  · have c_4 := znle (i := 10) (j := x) (by decide) (by omega) c_4
    refine lv_iconst (v := nI 0) hx hb dX2_nearestLaw_18 (by decide) ?_
    refine lv_istore (lv' := [(7, .int (nI 0)), (6, .int (nI x)), (5, .int ((znr f rt fr n k x).2)), (4, .int ((znr f rt fr n k x).1)), (0, .ref h), (1, .ref r), (2, .ref a), (3, .int (nI k))]) hx hb dX2_nearestLaw_19 hl (by decide) rfl (fun ls hl => ?_)
    have hl : lv_has ls 9 [(7, .int (nI 0)), (6, .int (nI x)), (5, .int ((znr f rt fr n k x).2)), (4, .int ((znr f rt fr n k x).1)), (0, .ref h), (1, .ref r), (2, .ref a), (3, .int (nI k))] := lv_sub hl [0, 1, 2, 3, 4, 5, 6, 7] rfl
    have e_6 : (znr f rt fr n k x).2 = (znf f rt fr n k x (znr f rt fr n k x) 0).2 := by rfl
    have hl : lv_has ls 9 [(7, .int (nI 0)), (6, .int (nI x)), (5, .int ((znf f rt fr n k x (znr f rt fr n k x) 0).2)), (4, .int ((znr f rt fr n k x).1)), (0, .ref h), (1, .ref r), (2, .ref a), (3, .int (nI k))] := Eq.subst (motive := fun zz_ => lv_has ls 9 [(7, .int (nI 0)), (6, .int (nI x)), (5, .int zz_), (4, .int ((znr f rt fr n k x).1)), (0, .ref h), (1, .ref r), (2, .ref a), (3, .int (nI k))]) e_6 hl
    have e_7 : (znr f rt fr n k x).1 = (znf f rt fr n k x (znr f rt fr n k x) 0).1 := by rfl
    have hl : lv_has ls 9 [(7, .int (nI 0)), (6, .int (nI x)), (5, .int ((znf f rt fr n k x (znr f rt fr n k x) 0).2)), (4, .int ((znf f rt fr n k x (znr f rt fr n k x) 0).1)), (0, .ref h), (1, .ref r), (2, .ref a), (3, .int (nI k))] := Eq.subst (motive := fun zz_ => lv_has ls 9 [(7, .int (nI 0)), (6, .int (nI x)), (5, .int ((znf f rt fr n k x (znr f rt fr n k x) 0).2)), (4, .int zz_), (0, .ref h), (1, .ref r), (2, .ref a), (3, .int (nI k))]) e_7 hl
    refine z_loop (fun y H locs ls => va_P D vwCl [(h, .inr (2, [.ref a1, .int jr])), (r, .inr (3, [.ref ro, .ref rn, .ref rr, .int rt, .int fr, .int pr, .int (nI n), .int (nI m)])), (a, .inr (6, [.ref b])), (b, .inl (cI, 36, .inl f))] H ∧ va_D A [(h, .inr (2, [.ref a1, .int jr])), (r, .inr (3, [.ref ro, .ref rn, .ref rr, .int rt, .int fr, .int pr, .int (nI n), .int (nI m)])), (a, .inr (6, [.ref b])), (b, .inl (cI, 36, .inl f))] ∧ va_S A sS.heap H locs ∧ lv_has ls 9 [(7, .int (nI y)), (6, .int (nI x)), (5, .int ((znf f rt fr n k x (znr f rt fr n k x) y).2)), (4, .int ((znf f rt fr n k x (znr f rt fr n k x) y).1)), (0, .ref h), (1, .ref r), (2, .ref a), (3, .int (nI k))]) (10) (lo := 0) (by omega) ⟨hP, hD, hS, hl⟩ (fun y hi_y ih_5 H locs ls hI => ?_)
    obtain ⟨hP, hD, hS, hl⟩ := hI
    have hP : va_P D vwCl [(h, .inr (2, [.ref a1, .int jr])), (r, .inr (3, [.ref ro, .ref rn, .ref rr, .int rt, .int fr, .int pr, .int (nI n), .int (nI m)])), (a, .inr (6, [.ref b])), (b, .inl (cI, 36, .inl f))] H := hP
    have hD : va_D A [(h, .inr (2, [.ref a1, .int jr])), (r, .inr (3, [.ref ro, .ref rn, .ref rr, .int rt, .int fr, .int pr, .int (nI n), .int (nI m)])), (a, .inr (6, [.ref b])), (b, .inl (cI, 36, .inl f))] := hD
    have hl : lv_has ls 9 [(7, .int (nI y)), (6, .int (nI x)), (5, .int ((znf f rt fr n k x (znr f rt fr n k x) y).2)), (4, .int ((znf f rt fr n k x (znr f rt fr n k x) y).1)), (0, .ref h), (1, .ref r), (2, .ref a), (3, .int (nI k))] := hl
    refine lv_iload hx hb dX2_nearestLaw_21 (lv_at hl 0 rfl) ?_
    refine lv_bipush (v := nI 10) hx hb dX2_nearestLaw_23 (by decide) ?_
    refine lv_icmp_ge (tgt := 91) hx hb dX2_nearestLaw_25 (by decide) (fun c_8 => ?_) (fun c_8 => ?_)
    · have c_8 := zle (i := 10) (j := y) (by decide) (by omega) c_8
      have hE_ : 10 = y := by omega
      subst hE_
      refine lv_iinc (v := nI (x + 1)) (lv' := [(6, .int (nI (x + 1))), (7, .int (nI 10)), (5, .int ((znf f rt fr n k x (znr f rt fr n k x) 10).2)), (4, .int ((znf f rt fr n k x (znr f rt fr n k x) 10).1)), (0, .ref h), (1, .ref r), (2, .ref a), (3, .int (nI k))]) hx hb dX2_nearestLaw_91 hl (k := 1) rfl (z_inc _ 1) (by decide) rfl (fun ls hl => ?_)
      refine lv_goto (tgt := 11) hx hb dX2_nearestLaw_94 (by decide) ?_
      have hl : lv_has ls 9 [(6, .int (nI (x + 1))), (5, .int ((znf f rt fr n k x (znr f rt fr n k x) 10).2)), (4, .int ((znf f rt fr n k x (znr f rt fr n k x) 10).1)), (0, .ref h), (1, .ref r), (2, .ref a), (3, .int (nI k))] := lv_sub hl [0, 2, 3, 4, 5, 6, 7] rfl
      have e_9 : (znf f rt fr n k x (znr f rt fr n k x) 10).2 = (znr f rt fr n k (x + 1)).2 := by (first | rfl | (simp [c_4, c_8]; done) | (simp_all []; done))
      have hl : lv_has ls 9 [(6, .int (nI (x + 1))), (5, .int ((znr f rt fr n k (x + 1)).2)), (4, .int ((znf f rt fr n k x (znr f rt fr n k x) 10).1)), (0, .ref h), (1, .ref r), (2, .ref a), (3, .int (nI k))] := Eq.subst (motive := fun zz_ => lv_has ls 9 [(6, .int (nI (x + 1))), (5, .int zz_), (4, .int ((znf f rt fr n k x (znr f rt fr n k x) 10).1)), (0, .ref h), (1, .ref r), (2, .ref a), (3, .int (nI k))]) e_9 hl
      have e_10 : (znf f rt fr n k x (znr f rt fr n k x) 10).1 = (znr f rt fr n k (x + 1)).1 := by (first | rfl | (simp [c_4, c_8]; done) | (simp_all []; done))
      have hl : lv_has ls 9 [(6, .int (nI (x + 1))), (5, .int ((znr f rt fr n k (x + 1)).2)), (4, .int ((znr f rt fr n k (x + 1)).1)), (0, .ref h), (1, .ref r), (2, .ref a), (3, .int (nI k))] := Eq.subst (motive := fun zz_ => lv_has ls 9 [(6, .int (nI (x + 1))), (5, .int ((znr f rt fr n k (x + 1)).2)), (4, .int zz_), (0, .ref h), (1, .ref r), (2, .ref a), (3, .int (nI k))]) e_10 hl
      exact ih_1 _ _ _ (by omega) ⟨hP, hD, hS, hl⟩
    · have c_8 := znle (i := 10) (j := y) (by decide) (by omega) c_8
      refine lv_iload hx hb dX2_nearestLaw_28 (lv_at hl 1 rfl) ?_
      refine lv_aload_n hx hb dX2_nearestLaw_30 rfl (lv_at hl 5 rfl) ?_
      refine z_getN (ci := 3) (v := .int rt) Z zin3 hP 1 rfl rfl 3 (by decide) zn10 rfl rfl dX2_nearestLaw_31 ?_
      refine lv_isub hx hb dX2_nearestLaw_34 ?_
      refine z_top (y := (nI x) - rt) rfl ?_
      refine z_abs Z hl.1 zm516 zm517 zm40 zm518 (Nat.le_of_ble_eq_true rfl) (Nat.le_of_ble_eq_true rfl) (Nat.zero_le _) (Nat.zero_le _) dX2_nearestLaw_35 ?_
      refine z_top (y := if 0 ≤ ((nI x) - rt) then ((nI x) - rt) else 0 - ((nI x) - rt)) rfl ?_
      refine z_top (y := zab (nI x - rt)) (rfl) ?_
      refine lv_iload hx hb dX2_nearestLaw_38 (lv_at hl 0 rfl) ?_
      refine lv_aload_n hx hb dX2_nearestLaw_40 rfl (lv_at hl 5 rfl) ?_
      refine z_getN (ci := 3) (v := .int fr) Z zin3 hP 1 rfl rfl 4 (by decide) zn13 rfl rfl dX2_nearestLaw_41 ?_
      refine lv_isub hx hb dX2_nearestLaw_44 ?_
      refine z_top (y := (nI y) - fr) rfl ?_
      refine z_abs Z hl.1 zm516 zm517 zm40 zm518 (Nat.le_of_ble_eq_true rfl) (Nat.le_of_ble_eq_true rfl) (Nat.zero_le _) (Nat.zero_le _) dX2_nearestLaw_45 ?_
      refine z_top (y := if 0 ≤ ((nI y) - fr) then ((nI y) - fr) else 0 - ((nI y) - fr)) rfl ?_
      refine z_top (y := zab (nI y - fr)) (rfl) ?_
      refine lv_iadd hx hb dX2_nearestLaw_48 ?_
      refine z_top (y := (zab (nI x - rt)) + (zab (nI y - fr))) rfl ?_
      refine z_top (y := zcg rt fr x y) (rfl) ?_
      refine lv_istore (lv' := [(8, .int (zcg rt fr x y)), (7, .int (nI y)), (6, .int (nI x)), (5, .int ((znf f rt fr n k x (znr f rt fr n k x) y).2)), (4, .int ((znf f rt fr n k x (znr f rt fr n k x) y).1)), (0, .ref h), (1, .ref r), (2, .ref a), (3, .int (nI k))]) hx hb dX2_nearestLaw_49 hl (by decide) rfl (fun ls hl => ?_)
      refine lv_iload hx hb dX2_nearestLaw_51 (lv_at hl 0 rfl) ?_
      refine lv_iload hx hb dX2_nearestLaw_53 (lv_at hl 3 rfl) ?_
      refine lv_icmp_ge (tgt := 85) hx hb dX2_nearestLaw_55 (by decide) (fun c_11 => ?_) (fun c_11 => ?_)
      · have c_11 : ((znf f rt fr n k x (znr f rt fr n k x) y).2) ≤ (zcg rt fr x y) := c_11
        refine lv_iinc (v := nI (y + 1)) (lv' := [(7, .int (nI (y + 1))), (8, .int (zcg rt fr x y)), (6, .int (nI x)), (5, .int ((znf f rt fr n k x (znr f rt fr n k x) y).2)), (4, .int ((znf f rt fr n k x (znr f rt fr n k x) y).1)), (0, .ref h), (1, .ref r), (2, .ref a), (3, .int (nI k))]) hx hb dX2_nearestLaw_85 hl (k := 1) rfl (z_inc _ 1) (by decide) rfl (fun ls hl => ?_)
        refine lv_goto (tgt := 21) hx hb dX2_nearestLaw_88 (by decide) ?_
        have hl : lv_has ls 9 [(7, .int (nI (y + 1))), (6, .int (nI x)), (5, .int ((znf f rt fr n k x (znr f rt fr n k x) y).2)), (4, .int ((znf f rt fr n k x (znr f rt fr n k x) y).1)), (0, .ref h), (1, .ref r), (2, .ref a), (3, .int (nI k))] := lv_sub hl [0, 2, 3, 4, 5, 6, 7, 8] rfl
        have e_12 : (znf f rt fr n k x (znr f rt fr n k x) y).2 = (znf f rt fr n k x (znr f rt fr n k x) (y + 1)).2 := by first | rw [znf_s, if_pos (by assumption)] | rw [znf_s, if_neg (by assumption), if_pos (by assumption)] | rw [znf_s, if_neg (by assumption), if_neg (by assumption)]
        have hl : lv_has ls 9 [(7, .int (nI (y + 1))), (6, .int (nI x)), (5, .int ((znf f rt fr n k x (znr f rt fr n k x) (y + 1)).2)), (4, .int ((znf f rt fr n k x (znr f rt fr n k x) y).1)), (0, .ref h), (1, .ref r), (2, .ref a), (3, .int (nI k))] := Eq.subst (motive := fun zz_ => lv_has ls 9 [(7, .int (nI (y + 1))), (6, .int (nI x)), (5, .int zz_), (4, .int ((znf f rt fr n k x (znr f rt fr n k x) y).1)), (0, .ref h), (1, .ref r), (2, .ref a), (3, .int (nI k))]) e_12 hl
        have e_13 : (znf f rt fr n k x (znr f rt fr n k x) y).1 = (znf f rt fr n k x (znr f rt fr n k x) (y + 1)).1 := by first | rw [znf_s, if_pos (by assumption)] | rw [znf_s, if_neg (by assumption), if_pos (by assumption)] | rw [znf_s, if_neg (by assumption), if_neg (by assumption)]
        have hl : lv_has ls 9 [(7, .int (nI (y + 1))), (6, .int (nI x)), (5, .int ((znf f rt fr n k x (znr f rt fr n k x) (y + 1)).2)), (4, .int ((znf f rt fr n k x (znr f rt fr n k x) (y + 1)).1)), (0, .ref h), (1, .ref r), (2, .ref a), (3, .int (nI k))] := Eq.subst (motive := fun zz_ => lv_has ls 9 [(7, .int (nI (y + 1))), (6, .int (nI x)), (5, .int ((znf f rt fr n k x (znr f rt fr n k x) (y + 1)).2)), (4, .int zz_), (0, .ref h), (1, .ref r), (2, .ref a), (3, .int (nI k))]) e_13 hl
        exact ih_5 _ _ _ (by omega) ⟨hP, hD, hS, hl⟩
      · have c_11 : ¬ (((znf f rt fr n k x (znr f rt fr n k x) y).2) ≤ (zcg rt fr x y)) := c_11
        refine lv_aload_n hx hb dX2_nearestLaw_58 rfl (lv_at hl 6 rfl) ?_
        refine lv_aload_n hx hb dX2_nearestLaw_59 rfl (lv_at hl 7 rfl) ?_
        refine lv_iload_n hx hb dX2_nearestLaw_60 rfl (lv_at hl 8 rfl) ?_
        refine lv_iload hx hb dX2_nearestLaw_61 (lv_at hl 2 rfl) ?_
        refine lv_iload hx hb dX2_nearestLaw_63 (lv_at hl 1 rfl) ?_
        refine z_callVi (As := [.ref a, .int (nI k), .int (nI x), .int (nI y)]) (rest := []) (ci := 3) (k0 := 0) Z hP hD hS hl.1 (zc_X3_allCanPay l D cI cZ r ro rn rr rt fr pr n m a b f k (nI x) (nI y) (by omega) (by omega)) zm519 zm520 zm521 zm32 zm522 ⟨rfl, zd_X3_allCanPay⟩ ⟨Nat.le_of_ble_eq_true rfl, Nat.le_of_ble_eq_true rfl⟩ ⟨Nat.zero_le _, Nat.zero_le _⟩ [1, 2, 3] rfl (by decide) rfl rfl rfl (fun _ => rfl) rfl (Nat.le_of_ble_eq_true rfl) rfl dX2_nearestLaw_65 (fun r_14 u H locs h_15 hP hD hS => ?_)
        have hP : va_P D vwCl [(h, .inr (2, [.ref a1, .int jr])), (r, .inr (3, [.ref ro, .ref rn, .ref rr, .int rt, .int fr, .int pr, .int (nI n), .int (nI m)])), (a, .inr (6, [.ref b])), (b, .inl (cI, 36, .inl f))] H := hP
        have hD : va_D A [(h, .inr (2, [.ref a1, .int jr])), (r, .inr (3, [.ref ro, .ref rn, .ref rr, .int rt, .int fr, .int pr, .int (nI n), .int (nI m)])), (a, .inr (6, [.ref b])), (b, .inl (cI, 36, .inl f))] := hD
        have h_15 : r_14 = if zac f (nI x) (nI y) k n = true then 1 else 0 := h_15
        subst h_15
        refine lv_if_eq (tgt := 85) hx hb dX2_nearestLaw_68 (by decide) (fun c_16 => ?_) (fun c_16 => ?_)
        · have c_16 := zb0 c_16
          refine lv_iinc (v := nI (y + 1)) (lv' := [(7, .int (nI (y + 1))), (8, .int (zcg rt fr x y)), (6, .int (nI x)), (5, .int ((znf f rt fr n k x (znr f rt fr n k x) y).2)), (4, .int ((znf f rt fr n k x (znr f rt fr n k x) y).1)), (0, .ref h), (1, .ref r), (2, .ref a), (3, .int (nI k))]) hx hb dX2_nearestLaw_85 hl (k := 1) rfl (z_inc _ 1) (by decide) rfl (fun ls hl => ?_)
          refine lv_goto (tgt := 21) hx hb dX2_nearestLaw_88 (by decide) ?_
          have hl : lv_has ls 9 [(7, .int (nI (y + 1))), (6, .int (nI x)), (5, .int ((znf f rt fr n k x (znr f rt fr n k x) y).2)), (4, .int ((znf f rt fr n k x (znr f rt fr n k x) y).1)), (0, .ref h), (1, .ref r), (2, .ref a), (3, .int (nI k))] := lv_sub hl [0, 2, 3, 4, 5, 6, 7, 8] rfl
          have e_17 : (znf f rt fr n k x (znr f rt fr n k x) y).2 = (znf f rt fr n k x (znr f rt fr n k x) (y + 1)).2 := by first | rw [znf_s, if_pos (by assumption)] | rw [znf_s, if_neg (by assumption), if_pos (by assumption)] | rw [znf_s, if_neg (by assumption), if_neg (by assumption)]
          have hl : lv_has ls 9 [(7, .int (nI (y + 1))), (6, .int (nI x)), (5, .int ((znf f rt fr n k x (znr f rt fr n k x) (y + 1)).2)), (4, .int ((znf f rt fr n k x (znr f rt fr n k x) y).1)), (0, .ref h), (1, .ref r), (2, .ref a), (3, .int (nI k))] := Eq.subst (motive := fun zz_ => lv_has ls 9 [(7, .int (nI (y + 1))), (6, .int (nI x)), (5, .int zz_), (4, .int ((znf f rt fr n k x (znr f rt fr n k x) y).1)), (0, .ref h), (1, .ref r), (2, .ref a), (3, .int (nI k))]) e_17 hl
          have e_18 : (znf f rt fr n k x (znr f rt fr n k x) y).1 = (znf f rt fr n k x (znr f rt fr n k x) (y + 1)).1 := by first | rw [znf_s, if_pos (by assumption)] | rw [znf_s, if_neg (by assumption), if_pos (by assumption)] | rw [znf_s, if_neg (by assumption), if_neg (by assumption)]
          have hl : lv_has ls 9 [(7, .int (nI (y + 1))), (6, .int (nI x)), (5, .int ((znf f rt fr n k x (znr f rt fr n k x) (y + 1)).2)), (4, .int ((znf f rt fr n k x (znr f rt fr n k x) (y + 1)).1)), (0, .ref h), (1, .ref r), (2, .ref a), (3, .int (nI k))] := Eq.subst (motive := fun zz_ => lv_has ls 9 [(7, .int (nI (y + 1))), (6, .int (nI x)), (5, .int ((znf f rt fr n k x (znr f rt fr n k x) (y + 1)).2)), (4, .int zz_), (0, .ref h), (1, .ref r), (2, .ref a), (3, .int (nI k))]) e_18 hl
          exact ih_5 _ _ _ (by omega) ⟨hP, hD, hS, hl⟩
        · have c_16 := zb1 c_16
          refine lv_iload hx hb dX2_nearestLaw_71 (lv_at hl 0 rfl) ?_
          refine lv_istore (lv' := [(5, .int (zcg rt fr x y)), (8, .int (zcg rt fr x y)), (7, .int (nI y)), (6, .int (nI x)), (4, .int ((znf f rt fr n k x (znr f rt fr n k x) y).1)), (0, .ref h), (1, .ref r), (2, .ref a), (3, .int (nI k))]) hx hb dX2_nearestLaw_73 hl (by decide) rfl (fun ls hl => ?_)
          refine lv_bipush (v := nI 10) hx hb dX2_nearestLaw_75 (by decide) ?_
          refine lv_iload hx hb dX2_nearestLaw_77 (lv_at hl 3 rfl) ?_
          refine lv_imul hx hb dX2_nearestLaw_79 ?_
          refine z_top (y := nI (10 * x)) (z_mul _ _) ?_
          refine lv_iload hx hb dX2_nearestLaw_80 (lv_at hl 2 rfl) ?_
          refine lv_iadd hx hb dX2_nearestLaw_82 ?_
          refine z_top (y := nI (10 * x + y)) (z_add _ _) ?_
          refine lv_istore (lv' := [(4, .int (nI (10 * x + y))), (5, .int (zcg rt fr x y)), (8, .int (zcg rt fr x y)), (7, .int (nI y)), (6, .int (nI x)), (0, .ref h), (1, .ref r), (2, .ref a), (3, .int (nI k))]) hx hb dX2_nearestLaw_83 hl (by decide) rfl (fun ls hl => ?_)
          refine lv_iinc (v := nI (y + 1)) (lv' := [(7, .int (nI (y + 1))), (4, .int (nI (10 * x + y))), (5, .int (zcg rt fr x y)), (8, .int (zcg rt fr x y)), (6, .int (nI x)), (0, .ref h), (1, .ref r), (2, .ref a), (3, .int (nI k))]) hx hb dX2_nearestLaw_85 hl (k := 3) rfl (z_inc _ 1) (by decide) rfl (fun ls hl => ?_)
          refine lv_goto (tgt := 21) hx hb dX2_nearestLaw_88 (by decide) ?_
          have hl : lv_has ls 9 [(7, .int (nI (y + 1))), (6, .int (nI x)), (5, .int (zcg rt fr x y)), (4, .int (nI (10 * x + y))), (0, .ref h), (1, .ref r), (2, .ref a), (3, .int (nI k))] := lv_sub hl [0, 4, 2, 1, 5, 6, 7, 8] rfl
          have e_19 : zcg rt fr x y = (znf f rt fr n k x (znr f rt fr n k x) (y + 1)).2 := by first | rw [znf_s, if_pos (by assumption)] | rw [znf_s, if_neg (by assumption), if_pos (by assumption)] | rw [znf_s, if_neg (by assumption), if_neg (by assumption)]
          have hl : lv_has ls 9 [(7, .int (nI (y + 1))), (6, .int (nI x)), (5, .int ((znf f rt fr n k x (znr f rt fr n k x) (y + 1)).2)), (4, .int (nI (10 * x + y))), (0, .ref h), (1, .ref r), (2, .ref a), (3, .int (nI k))] := Eq.subst (motive := fun zz_ => lv_has ls 9 [(7, .int (nI (y + 1))), (6, .int (nI x)), (5, .int zz_), (4, .int (nI (10 * x + y))), (0, .ref h), (1, .ref r), (2, .ref a), (3, .int (nI k))]) e_19 hl
          have e_20 : nI (10 * x + y) = (znf f rt fr n k x (znr f rt fr n k x) (y + 1)).1 := by first | rw [znf_s, if_pos (by assumption)] | rw [znf_s, if_neg (by assumption), if_pos (by assumption)] | rw [znf_s, if_neg (by assumption), if_neg (by assumption)]
          have hl : lv_has ls 9 [(7, .int (nI (y + 1))), (6, .int (nI x)), (5, .int ((znf f rt fr n k x (znr f rt fr n k x) (y + 1)).2)), (4, .int ((znf f rt fr n k x (znr f rt fr n k x) (y + 1)).1)), (0, .ref h), (1, .ref r), (2, .ref a), (3, .int (nI k))] := Eq.subst (motive := fun zz_ => lv_has ls 9 [(7, .int (nI (y + 1))), (6, .int (nI x)), (5, .int ((znf f rt fr n k x (znr f rt fr n k x) (y + 1)).2)), (4, .int zz_), (0, .ref h), (1, .ref r), (2, .ref a), (3, .int (nI k))]) e_20 hl
          exact ih_5 _ _ _ (by omega) ⟨hP, hD, hS, hl⟩

theorem dX2_surprisesIn_0 : decode cX2_surprisesIn 0 = .ok (.aload_n 0, 1) := by decide +kernel
theorem dX2_surprisesIn_1 : decode cX2_surprisesIn 1 = .ok (.getfield 12, 3) := by decide +kernel
theorem dX2_surprisesIn_4 : decode cX2_surprisesIn 4 = .ok (.aload_n 2, 1) := by decide +kernel
theorem dX2_surprisesIn_5 : decode cX2_surprisesIn 5 = .ok (.invokevirtual 22, 3) := by decide +kernel
theorem dX2_surprisesIn_8 : decode cX2_surprisesIn 8 = .ok (.aload_n 0, 1) := by decide +kernel
theorem dX2_surprisesIn_9 : decode cX2_surprisesIn 9 = .ok (.getfield 12, 3) := by decide +kernel
theorem dX2_surprisesIn_12 : decode cX2_surprisesIn 12 = .ok (.invokevirtual 74, 3) := by decide +kernel
theorem dX2_surprisesIn_15 : decode cX2_surprisesIn 15 = .ok (.iconst 0, 1) := by decide +kernel
theorem dX2_surprisesIn_16 : decode cX2_surprisesIn 16 = .ok (.istore 7, 2) := by decide +kernel
theorem dX2_surprisesIn_18 : decode cX2_surprisesIn 18 = .ok (.iconst 0, 1) := by decide +kernel
theorem dX2_surprisesIn_19 : decode cX2_surprisesIn 19 = .ok (.istore 8, 2) := by decide +kernel
theorem dX2_surprisesIn_21 : decode cX2_surprisesIn 21 = .ok (.iload 8, 2) := by decide +kernel
theorem dX2_surprisesIn_23 : decode cX2_surprisesIn 23 = .ok (.iload 5, 2) := by decide +kernel
theorem dX2_surprisesIn_25 : decode cX2_surprisesIn 25 = .ok (.if_icmp .ge 70, 3) := by decide +kernel
theorem dX2_surprisesIn_28 : decode cX2_surprisesIn 28 = .ok (.iload 6, 2) := by decide +kernel
theorem dX2_surprisesIn_30 : decode cX2_surprisesIn 30 = .ok (.iload 5, 2) := by decide +kernel
theorem dX2_surprisesIn_32 : decode cX2_surprisesIn 32 = .ok (.iload 8, 2) := by decide +kernel
theorem dX2_surprisesIn_34 : decode cX2_surprisesIn 34 = .ok (.invokestatic 77, 3) := by decide +kernel
theorem dX2_surprisesIn_37 : decode cX2_surprisesIn 37 = .ok (.istore 9, 2) := by decide +kernel
theorem dX2_surprisesIn_39 : decode cX2_surprisesIn 39 = .ok (.iload 7, 2) := by decide +kernel
theorem dX2_surprisesIn_41 : decode cX2_surprisesIn 41 = .ok (.aload_n 0, 1) := by decide +kernel
theorem dX2_surprisesIn_42 : decode cX2_surprisesIn 42 = .ok (.getfield 12, 3) := by decide +kernel
theorem dX2_surprisesIn_45 : decode cX2_surprisesIn 45 = .ok (.iload_n 3, 1) := by decide +kernel
theorem dX2_surprisesIn_46 : decode cX2_surprisesIn 46 = .ok (.iload 9, 2) := by decide +kernel
theorem dX2_surprisesIn_48 : decode cX2_surprisesIn 48 = .ok (.aload_n 1, 1) := by decide +kernel
theorem dX2_surprisesIn_49 : decode cX2_surprisesIn 49 = .ok (.getfield 67, 3) := by decide +kernel
theorem dX2_surprisesIn_52 : decode cX2_surprisesIn 52 = .ok (.invokevirtual 80, 3) := by decide +kernel
theorem dX2_surprisesIn_55 : decode cX2_surprisesIn 55 = .ok (.iadd, 1) := by decide +kernel
theorem dX2_surprisesIn_56 : decode cX2_surprisesIn 56 = .ok (.istore 7, 2) := by decide +kernel
theorem dX2_surprisesIn_58 : decode cX2_surprisesIn 58 = .ok (.iload 4, 2) := by decide +kernel
theorem dX2_surprisesIn_60 : decode cX2_surprisesIn 60 = .ok (.ifCond .ne 13, 3) := by decide +kernel
theorem dX2_surprisesIn_63 : decode cX2_surprisesIn 63 = .ok (.aload_n 0, 1) := by decide +kernel
theorem dX2_surprisesIn_64 : decode cX2_surprisesIn 64 = .ok (.getfield 12, 3) := by decide +kernel
theorem dX2_surprisesIn_67 : decode cX2_surprisesIn 67 = .ok (.iload_n 3, 1) := by decide +kernel
theorem dX2_surprisesIn_68 : decode cX2_surprisesIn 68 = .ok (.iload 9, 2) := by decide +kernel
theorem dX2_surprisesIn_70 : decode cX2_surprisesIn 70 = .ok (.invokevirtual 83, 3) := by decide +kernel
theorem dX2_surprisesIn_73 : decode cX2_surprisesIn 73 = .ok (.iload 4, 2) := by decide +kernel
theorem dX2_surprisesIn_75 : decode cX2_surprisesIn 75 = .ok (.iconst 2, 1) := by decide +kernel
theorem dX2_surprisesIn_76 : decode cX2_surprisesIn 76 = .ok (.if_icmp .ne 13, 3) := by decide +kernel
theorem dX2_surprisesIn_79 : decode cX2_surprisesIn 79 = .ok (.aload_n 0, 1) := by decide +kernel
theorem dX2_surprisesIn_80 : decode cX2_surprisesIn 80 = .ok (.getfield 12, 3) := by decide +kernel
theorem dX2_surprisesIn_83 : decode cX2_surprisesIn 83 = .ok (.iload_n 3, 1) := by decide +kernel
theorem dX2_surprisesIn_84 : decode cX2_surprisesIn 84 = .ok (.iload 9, 2) := by decide +kernel
theorem dX2_surprisesIn_86 : decode cX2_surprisesIn 86 = .ok (.invokevirtual 87, 3) := by decide +kernel
theorem dX2_surprisesIn_89 : decode cX2_surprisesIn 89 = .ok (.iinc 8 1, 3) := by decide +kernel
theorem dX2_surprisesIn_92 : decode cX2_surprisesIn 92 = .ok (.goto (-71), 3) := by decide +kernel
theorem dX2_surprisesIn_95 : decode cX2_surprisesIn 95 = .ok (.iload 7, 2) := by decide +kernel
theorem dX2_surprisesIn_97 : decode cX2_surprisesIn 97 = .ok (.ireturn, 1) := by decide +kernel
theorem zd_X2_surprisesIn : yX2_surprisesIn.cls ≠ "java/lang/invoke/MethodHandle" ∧ yX2_surprisesIn.cls ≠ "java/lang/invoke/VarHandle" ∧ (parseMethodDescriptor yX2_surprisesIn.desc).map (fun d => d.parameters.length) = some 6 := by decide +kernel
set_option maxHeartbeats 4000000 in
set_option maxRecDepth 100000 in
theorem zc_X2_surprisesIn (l : Launch) (D : va_G) (cI cZ : ClassId) (h : Nat) (jr : Int32) (a1 : Nat) (b1 : Nat) (g : Nat → Int32) (r : Nat) (ro : Nat) (rn : Nat) (rr : Nat) (rt : Int32) (fr : Int32) (pr : Int32) (n : Nat) (m : Nat) (a : Nat) (b : Nat) (f : Nat → Int32) (p : Nat) (sc : Int32) (d : Nat) (w : Nat) (hn : n ≤ 5) (hp : p < 5) (hd : d ≤ 8) (hw : w < 2147483648) (hk : ∀ i, i < d → zdi w d i < 4) : zI l yX2_surprisesIn cX2_surprisesIn 10 .int 2 47 D cI cZ [.ref h, .ref r, .ref a, .int (nI p), .int sc, .int (nI d), .int (nI w)] [(h, .inr (2, [.ref a1, .int jr])), (a1, .inr (6, [.ref b1])), (b1, .inl (cI, 36, .inl g)), (r, .inr (3, [.ref ro, .ref rn, .ref rr, .int rt, .int fr, .int pr, .int (nI n), .int (nI m)])), (a, .inr (6, [.ref b])), (b, .inl (cI, 36, .inl f))] (fun (r : Int32) (u : (Nat → Int32)) => r = zss f p fr sc d w d) (fun (u : (Nat → Int32)) => [(h, .inr (2, [.ref a1, .int jr])), (a1, .inr (6, [.ref b1])), (b1, .inl (cI, 36, .inl u)), (r, .inr (3, [.ref ro, .ref rn, .ref rr, .int rt, .int fr, .int pr, .int (nI n), .int (nI m)])), (a, .inr (6, [.ref b])), (b, .inl (cI, 36, .inl f))]) := by
  refine zI_of (by decide) (Nat.le_of_ble_eq_true rfl) ?_
  intro pP eE sS mM aA bB mT cC A ls Z hP hD hS hl
  have hx := Z.1
  have hb := Z.2.1
  have hown := Z.2.2.2.2.2.1
  have hts := Z.2.2.2.2.1
  have Z : zAt pP sS mM aA mT cC D cI cZ A "SurpriseTax$Foresight" cX2_surprisesIn 10 (some .int) := Z
  have hl : lv_has ls 10 [(0, .ref h), (1, .ref r), (2, .ref a), (3, .int (nI p)), (4, .int sc), (5, .int (nI d)), (6, .int (nI w))] := hl
  obtain ⟨H, hH⟩ : ∃ H, H = sS.heap := ⟨_, rfl⟩
  have hP : va_P D vwCl [(h, .inr (2, [.ref a1, .int jr])), (a1, .inr (6, [.ref b1])), (b1, .inl (cI, 36, .inl g)), (r, .inr (3, [.ref ro, .ref rn, .ref rr, .int rt, .int fr, .int pr, .int (nI n), .int (nI m)])), (a, .inr (6, [.ref b])), (b, .inl (cI, 36, .inl f))] H := by rw [hH]; exact hP
  have hS : va_S A sS.heap H [] := by rw [hH]; exact hS
  rw [← hH]
  clear hH
  obtain ⟨locs, hlo⟩ : ∃ q : List Loc, q = [] := ⟨_, rfl⟩
  rw [← hlo] at hS ⊢
  clear hlo
  refine lv_aload_n hx hb dX2_surprisesIn_0 rfl (lv_at hl 0 rfl) ?_
  refine z_get (ci := 2) (v := .ref a1) Z zin2 hP 0 rfl rfl 0 (by decide) zm170 rfl rfl dX2_surprisesIn_1 ?_
  refine lv_aload_n hx hb dX2_surprisesIn_4 rfl (lv_at hl 2 rfl) ?_
  refine z_callVv (As := [.ref a]) (rest := []) (ci := 6) (k0 := 0) Z hP hD hS hl.1 (zc_X6_copyFrom l D cI cZ a1 b1 g a b f ) zm485 zm451 zm452 zm33 zm453 ⟨rfl, zd_X6_copyFrom⟩ ⟨Nat.le_of_ble_eq_true rfl, Nat.le_of_ble_eq_true rfl⟩ ⟨Nat.zero_le _, Nat.zero_le _⟩ [1, 2, 4, 5] rfl (by decide) rfl rfl rfl (fun _ => rfl) rfl (Nat.le_of_ble_eq_true rfl) rfl dX2_surprisesIn_5 (fun u H locs h_2 hP hD hS => ?_)
  have hP : va_P D vwCl [(h, .inr (2, [.ref a1, .int jr])), (a1, .inr (6, [.ref b1])), (b1, .inl (cI, 36, .inl f)), (r, .inr (3, [.ref ro, .ref rn, .ref rr, .int rt, .int fr, .int pr, .int (nI n), .int (nI m)])), (a, .inr (6, [.ref b])), (b, .inl (cI, 36, .inl f))] H := hP
  have hD : va_D A [(h, .inr (2, [.ref a1, .int jr])), (a1, .inr (6, [.ref b1])), (b1, .inl (cI, 36, .inl f)), (r, .inr (3, [.ref ro, .ref rn, .ref rr, .int rt, .int fr, .int pr, .int (nI n), .int (nI m)])), (a, .inr (6, [.ref b])), (b, .inl (cI, 36, .inl f))] := hD
  refine lv_aload_n hx hb dX2_surprisesIn_8 rfl (lv_at hl 0 rfl) ?_
  refine z_get (ci := 2) (v := .ref a1) Z zin2 hP 0 rfl rfl 0 (by decide) zm170 rfl rfl dX2_surprisesIn_9 ?_
  refine z_callVv (As := []) (rest := []) (ci := 6) (k0 := 0) Z hP hD hS hl.1 (zc_X6_forgetNews l D cI cZ a1 b1 f ) zm582 zm99 zm100 zm33 zm101 ⟨rfl, zd_X6_forgetNews⟩ ⟨Nat.le_of_ble_eq_true rfl, Nat.le_of_ble_eq_true rfl⟩ ⟨Nat.zero_le _, Nat.zero_le _⟩ [1, 2] rfl (by decide) rfl rfl rfl (fun _ => rfl) rfl (Nat.le_of_ble_eq_true rfl) rfl dX2_surprisesIn_12 (fun u H locs h_4 hP hD hS => ?_)
  have hP : va_P D vwCl [(h, .inr (2, [.ref a1, .int jr])), (a1, .inr (6, [.ref b1])), (b1, .inl (cI, 36, .inl (zfg f 5))), (r, .inr (3, [.ref ro, .ref rn, .ref rr, .int rt, .int fr, .int pr, .int (nI n), .int (nI m)])), (a, .inr (6, [.ref b])), (b, .inl (cI, 36, .inl f))] H := hP
  have hD : va_D A [(h, .inr (2, [.ref a1, .int jr])), (a1, .inr (6, [.ref b1])), (b1, .inl (cI, 36, .inl (zfg f 5))), (r, .inr (3, [.ref ro, .ref rn, .ref rr, .int rt, .int fr, .int pr, .int (nI n), .int (nI m)])), (a, .inr (6, [.ref b])), (b, .inl (cI, 36, .inl f))] := hD
  refine lv_iconst (v := nI 0) hx hb dX2_surprisesIn_15 (by decide) ?_
  refine lv_istore (lv' := [(7, .int (nI 0)), (0, .ref h), (1, .ref r), (2, .ref a), (3, .int (nI p)), (4, .int sc), (5, .int (nI d)), (6, .int (nI w))]) hx hb dX2_surprisesIn_16 hl (by decide) rfl (fun ls hl => ?_)
  refine lv_iconst (v := nI 0) hx hb dX2_surprisesIn_18 (by decide) ?_
  refine lv_istore (lv' := [(8, .int (nI 0)), (7, .int (nI 0)), (0, .ref h), (1, .ref r), (2, .ref a), (3, .int (nI p)), (4, .int sc), (5, .int (nI d)), (6, .int (nI w))]) hx hb dX2_surprisesIn_19 hl (by decide) rfl (fun ls hl => ?_)
  have e_6 : zfg f 5 = zsg f p sc d w 0 := by rfl
  have hP : va_P D vwCl [(h, .inr (2, [.ref a1, .int jr])), (a1, .inr (6, [.ref b1])), (b1, .inl (cI, 36, .inl (zsg f p sc d w 0))), (r, .inr (3, [.ref ro, .ref rn, .ref rr, .int rt, .int fr, .int pr, .int (nI n), .int (nI m)])), (a, .inr (6, [.ref b])), (b, .inl (cI, 36, .inl f))] H := Eq.subst (motive := fun zz_ => va_P D vwCl [(h, .inr (2, [.ref a1, .int jr])), (a1, .inr (6, [.ref b1])), (b1, .inl (cI, 36, .inl zz_)), (r, .inr (3, [.ref ro, .ref rn, .ref rr, .int rt, .int fr, .int pr, .int (nI n), .int (nI m)])), (a, .inr (6, [.ref b])), (b, .inl (cI, 36, .inl f))] H) e_6 hP
  have hD : va_D A [(h, .inr (2, [.ref a1, .int jr])), (a1, .inr (6, [.ref b1])), (b1, .inl (cI, 36, .inl (zsg f p sc d w 0))), (r, .inr (3, [.ref ro, .ref rn, .ref rr, .int rt, .int fr, .int pr, .int (nI n), .int (nI m)])), (a, .inr (6, [.ref b])), (b, .inl (cI, 36, .inl f))] := zD_of hD rfl
  have hl : lv_has ls 10 [(8, .int (nI 0)), (7, .int (nI 0)), (0, .ref h), (1, .ref r), (2, .ref a), (3, .int (nI p)), (4, .int sc), (5, .int (nI d)), (6, .int (nI w))] := lv_sub hl [0, 1, 2, 3, 4, 5, 6, 7, 8] rfl
  have e_7 : nI 0 = zss f p fr sc d w 0 := by rfl
  have hl : lv_has ls 10 [(8, .int (nI 0)), (7, .int (zss f p fr sc d w 0)), (0, .ref h), (1, .ref r), (2, .ref a), (3, .int (nI p)), (4, .int sc), (5, .int (nI d)), (6, .int (nI w))] := Eq.subst (motive := fun zz_ => lv_has ls 10 [(8, .int (nI 0)), (7, .int zz_), (0, .ref h), (1, .ref r), (2, .ref a), (3, .int (nI p)), (4, .int sc), (5, .int (nI d)), (6, .int (nI w))]) e_7 hl
  refine z_loop (fun i H locs ls => va_P D vwCl [(h, .inr (2, [.ref a1, .int jr])), (a1, .inr (6, [.ref b1])), (b1, .inl (cI, 36, .inl (zsg f p sc d w i))), (r, .inr (3, [.ref ro, .ref rn, .ref rr, .int rt, .int fr, .int pr, .int (nI n), .int (nI m)])), (a, .inr (6, [.ref b])), (b, .inl (cI, 36, .inl f))] H ∧ va_D A [(h, .inr (2, [.ref a1, .int jr])), (a1, .inr (6, [.ref b1])), (b1, .inl (cI, 36, .inl (zsg f p sc d w i))), (r, .inr (3, [.ref ro, .ref rn, .ref rr, .int rt, .int fr, .int pr, .int (nI n), .int (nI m)])), (a, .inr (6, [.ref b])), (b, .inl (cI, 36, .inl f))] ∧ va_S A sS.heap H locs ∧ lv_has ls 10 [(8, .int (nI i)), (7, .int (zss f p fr sc d w i)), (0, .ref h), (1, .ref r), (2, .ref a), (3, .int (nI p)), (4, .int sc), (5, .int (nI d)), (6, .int (nI w))]) (d) (lo := 0) (by omega) ⟨hP, hD, hS, hl⟩ (fun i hi_i ih_5 H locs ls hI => ?_)
  obtain ⟨hP, hD, hS, hl⟩ := hI
  have hP : va_P D vwCl [(h, .inr (2, [.ref a1, .int jr])), (a1, .inr (6, [.ref b1])), (b1, .inl (cI, 36, .inl (zsg f p sc d w i))), (r, .inr (3, [.ref ro, .ref rn, .ref rr, .int rt, .int fr, .int pr, .int (nI n), .int (nI m)])), (a, .inr (6, [.ref b])), (b, .inl (cI, 36, .inl f))] H := hP
  have hD : va_D A [(h, .inr (2, [.ref a1, .int jr])), (a1, .inr (6, [.ref b1])), (b1, .inl (cI, 36, .inl (zsg f p sc d w i))), (r, .inr (3, [.ref ro, .ref rn, .ref rr, .int rt, .int fr, .int pr, .int (nI n), .int (nI m)])), (a, .inr (6, [.ref b])), (b, .inl (cI, 36, .inl f))] := hD
  have hl : lv_has ls 10 [(8, .int (nI i)), (7, .int (zss f p fr sc d w i)), (0, .ref h), (1, .ref r), (2, .ref a), (3, .int (nI p)), (4, .int sc), (5, .int (nI d)), (6, .int (nI w))] := hl
  refine lv_iload hx hb dX2_surprisesIn_21 (lv_at hl 0 rfl) ?_
  refine lv_iload hx hb dX2_surprisesIn_23 (lv_at hl 7 rfl) ?_
  refine lv_icmp_ge (tgt := 95) hx hb dX2_surprisesIn_25 (by decide) (fun c_8 => ?_) (fun c_8 => ?_)
  · have c_8 := zle (i := d) (j := i) (by omega) (by omega) c_8
    have hE_ : d = i := by omega
    subst hE_
    refine lv_iload hx hb dX2_surprisesIn_95 (lv_at hl 1 rfl) ?_
    exact z_iret Z (zsg f p sc d w d) rfl hP hS dX2_surprisesIn_97
  · have c_8 := znle (i := d) (j := i) (by omega) (by omega) c_8
    refine lv_iload hx hb dX2_surprisesIn_28 (lv_at hl 8 rfl) ?_
    refine lv_iload hx hb dX2_surprisesIn_30 (lv_at hl 7 rfl) ?_
    refine lv_iload hx hb dX2_surprisesIn_32 (lv_at hl 0 rfl) ?_
    refine z_callNi (As := [.int (nI w), .int (nI d), .int (nI i)]) (rest := []) Z hP hD hS hl.1 (zc_X8_figureAt l D cI cZ w d i (by omega) (by omega) (by omega)) zn31 zm576 zm30 zm577 zd_X8_figureAt ⟨Nat.le_of_ble_eq_true rfl, Nat.le_of_ble_eq_true rfl⟩ ⟨Nat.zero_le _, Nat.zero_le _⟩ [] rfl (by decide) (fun _ => rfl) rfl (Nat.le_of_ble_eq_true rfl) rfl dX2_surprisesIn_34 (fun r_9 u H locs h_10 hP hD hS => ?_)
    have hP : va_P D vwCl [(h, .inr (2, [.ref a1, .int jr])), (a1, .inr (6, [.ref b1])), (b1, .inl (cI, 36, .inl (zsg f p sc d w i))), (r, .inr (3, [.ref ro, .ref rn, .ref rr, .int rt, .int fr, .int pr, .int (nI n), .int (nI m)])), (a, .inr (6, [.ref b])), (b, .inl (cI, 36, .inl f))] H := hP
    have hD : va_D A [(h, .inr (2, [.ref a1, .int jr])), (a1, .inr (6, [.ref b1])), (b1, .inl (cI, 36, .inl (zsg f p sc d w i))), (r, .inr (3, [.ref ro, .ref rn, .ref rr, .int rt, .int fr, .int pr, .int (nI n), .int (nI m)])), (a, .inr (6, [.ref b])), (b, .inl (cI, 36, .inl f))] := hD
    have h_10 : r_9 = nI (zdi w d i) := h_10
    subst h_10
    have hk4 := hk i (by omega)
    refine lv_istore (lv' := [(9, .int (nI (zdi w d i))), (8, .int (nI i)), (7, .int (zss f p fr sc d w i)), (0, .ref h), (1, .ref r), (2, .ref a), (3, .int (nI p)), (4, .int sc), (5, .int (nI d)), (6, .int (nI w))]) hx hb dX2_surprisesIn_37 hl (by decide) rfl (fun ls hl => ?_)
    refine lv_iload hx hb dX2_surprisesIn_39 (lv_at hl 2 rfl) ?_
    refine lv_aload_n hx hb dX2_surprisesIn_41 rfl (lv_at hl 3 rfl) ?_
    refine z_get (ci := 2) (v := .ref a1) Z zin2 hP 0 rfl rfl 0 (by decide) zm170 rfl rfl dX2_surprisesIn_42 ?_
    refine lv_iload_n hx hb dX2_surprisesIn_45 rfl (lv_at hl 6 rfl) ?_
    refine lv_iload hx hb dX2_surprisesIn_46 (lv_at hl 0 rfl) ?_
    refine lv_aload_n hx hb dX2_surprisesIn_48 rfl (lv_at hl 4 rfl) ?_
    refine z_getN (ci := 3) (v := .int fr) Z zin3 hP 3 rfl rfl 4 (by decide) zn13 rfl rfl dX2_surprisesIn_49 ?_
    refine z_callVi (As := [.int (nI p), .int (nI (zdi w d i)), .int fr]) (rest := [.int (zss f p fr sc d w i)]) (ci := 6) (k0 := 0) Z hP hD hS hl.1 (zc_X6_surprise l D cI cZ a1 b1 (zsg f p sc d w i) p (zdi w d i) fr (by omega) (by omega)) zm583 zm396 zm397 zm33 zm398 ⟨rfl, zd_X6_surprise⟩ ⟨Nat.le_of_ble_eq_true rfl, Nat.le_of_ble_eq_true rfl⟩ ⟨Nat.zero_le _, Nat.zero_le _⟩ [1, 2] rfl (by decide) rfl rfl rfl (fun _ => rfl) rfl (Nat.le_of_ble_eq_true rfl) rfl dX2_surprisesIn_52 (fun r_11 u H locs h_12 hP hD hS => ?_)
    have hP : va_P D vwCl [(h, .inr (2, [.ref a1, .int jr])), (a1, .inr (6, [.ref b1])), (b1, .inl (cI, 36, .inl (zsg f p sc d w i))), (r, .inr (3, [.ref ro, .ref rn, .ref rr, .int rt, .int fr, .int pr, .int (nI n), .int (nI m)])), (a, .inr (6, [.ref b])), (b, .inl (cI, 36, .inl f))] H := hP
    have hD : va_D A [(h, .inr (2, [.ref a1, .int jr])), (a1, .inr (6, [.ref b1])), (b1, .inl (cI, 36, .inl (zsg f p sc d w i))), (r, .inr (3, [.ref ro, .ref rn, .ref rr, .int rt, .int fr, .int pr, .int (nI n), .int (nI m)])), (a, .inr (6, [.ref b])), (b, .inl (cI, 36, .inl f))] := hD
    have h_12 : r_11 = zsu ((zsg f p sc d w i) (p * 4 + (zdi w d i))) ((zsg f p sc d w i) (25 + p)) ((zsg f p sc d w i) (30 + p)) (nI (zdi w d i)) fr := h_12
    subst h_12
    refine lv_iadd hx hb dX2_surprisesIn_55 ?_
    refine z_top (y := (zss f p fr sc d w i) + (zsu ((zsg f p sc d w i) (p * 4 + (zdi w d i))) ((zsg f p sc d w i) (25 + p)) ((zsg f p sc d w i) (30 + p)) (nI (zdi w d i)) fr)) rfl ?_
    refine lv_istore (lv' := [(7, .int ((zss f p fr sc d w i) + (zsu ((zsg f p sc d w i) (p * 4 + (zdi w d i))) ((zsg f p sc d w i) (25 + p)) ((zsg f p sc d w i) (30 + p)) (nI (zdi w d i)) fr))), (9, .int (nI (zdi w d i))), (8, .int (nI i)), (0, .ref h), (1, .ref r), (2, .ref a), (3, .int (nI p)), (4, .int sc), (5, .int (nI d)), (6, .int (nI w))]) hx hb dX2_surprisesIn_56 hl (by decide) rfl (fun ls hl => ?_)
    refine lv_iload hx hb dX2_surprisesIn_58 (lv_at hl 7 rfl) ?_
    refine lv_if_ne (tgt := 73) hx hb dX2_surprisesIn_60 (by decide) (fun c_13 => ?_) (fun c_13 => ?_)
    · have c_13 : ¬ (sc = 0) := c_13
      refine lv_iload hx hb dX2_surprisesIn_73 (lv_at hl 7 rfl) ?_
      refine lv_iconst (v := nI 2) hx hb dX2_surprisesIn_75 (by decide) ?_
      refine lv_icmp_ne (tgt := 89) hx hb dX2_surprisesIn_76 (by decide) (fun c_14 => ?_) (fun c_14 => ?_)
      · have c_14 : ¬ (sc = 2) := c_14
        refine lv_iinc (v := nI (i + 1)) (lv' := [(8, .int (nI (i + 1))), (7, .int ((zss f p fr sc d w i) + (zsu ((zsg f p sc d w i) (p * 4 + (zdi w d i))) ((zsg f p sc d w i) (25 + p)) ((zsg f p sc d w i) (30 + p)) (nI (zdi w d i)) fr))), (9, .int (nI (zdi w d i))), (0, .ref h), (1, .ref r), (2, .ref a), (3, .int (nI p)), (4, .int sc), (5, .int (nI d)), (6, .int (nI w))]) hx hb dX2_surprisesIn_89 hl (k := 2) rfl (z_inc _ 1) (by decide) rfl (fun ls hl => ?_)
        refine lv_goto (tgt := 21) hx hb dX2_surprisesIn_92 (by decide) ?_
        have e_15 : zsg f p sc d w i = zsg f p sc d w (i + 1) := by first | exact z02 (by assumption) (by assumption) | rw [zsg_s, if_pos (by assumption)] | rw [zsg_s, if_neg (by assumption), if_pos (by assumption)] | rw [zsg_s, if_neg (by assumption), if_neg (by assumption)] | rfl
        have hP : va_P D vwCl [(h, .inr (2, [.ref a1, .int jr])), (a1, .inr (6, [.ref b1])), (b1, .inl (cI, 36, .inl (zsg f p sc d w (i + 1)))), (r, .inr (3, [.ref ro, .ref rn, .ref rr, .int rt, .int fr, .int pr, .int (nI n), .int (nI m)])), (a, .inr (6, [.ref b])), (b, .inl (cI, 36, .inl f))] H := Eq.subst (motive := fun zz_ => va_P D vwCl [(h, .inr (2, [.ref a1, .int jr])), (a1, .inr (6, [.ref b1])), (b1, .inl (cI, 36, .inl zz_)), (r, .inr (3, [.ref ro, .ref rn, .ref rr, .int rt, .int fr, .int pr, .int (nI n), .int (nI m)])), (a, .inr (6, [.ref b])), (b, .inl (cI, 36, .inl f))] H) e_15 hP
        have hD : va_D A [(h, .inr (2, [.ref a1, .int jr])), (a1, .inr (6, [.ref b1])), (b1, .inl (cI, 36, .inl (zsg f p sc d w (i + 1)))), (r, .inr (3, [.ref ro, .ref rn, .ref rr, .int rt, .int fr, .int pr, .int (nI n), .int (nI m)])), (a, .inr (6, [.ref b])), (b, .inl (cI, 36, .inl f))] := zD_of hD rfl
        have hl : lv_has ls 10 [(8, .int (nI (i + 1))), (7, .int ((zss f p fr sc d w i) + (zsu ((zsg f p sc d w i) (p * 4 + (zdi w d i))) ((zsg f p sc d w i) (25 + p)) ((zsg f p sc d w i) (30 + p)) (nI (zdi w d i)) fr))), (0, .ref h), (1, .ref r), (2, .ref a), (3, .int (nI p)), (4, .int sc), (5, .int (nI d)), (6, .int (nI w))] := lv_sub hl [0, 1, 3, 4, 5, 6, 7, 8, 9] rfl
        have e_16 : (zss f p fr sc d w i) + (zsu ((zsg f p sc d w i) (p * 4 + (zdi w d i))) ((zsg f p sc d w i) (25 + p)) ((zsg f p sc d w i) (30 + p)) (nI (zdi w d i)) fr) = zss f p fr sc d w (i + 1) := by first | exact z02 (by assumption) (by assumption) | rw [zsg_s, if_pos (by assumption)] | rw [zsg_s, if_neg (by assumption), if_pos (by assumption)] | rw [zsg_s, if_neg (by assumption), if_neg (by assumption)] | rfl
        have hl : lv_has ls 10 [(8, .int (nI (i + 1))), (7, .int (zss f p fr sc d w (i + 1))), (0, .ref h), (1, .ref r), (2, .ref a), (3, .int (nI p)), (4, .int sc), (5, .int (nI d)), (6, .int (nI w))] := Eq.subst (motive := fun zz_ => lv_has ls 10 [(8, .int (nI (i + 1))), (7, .int zz_), (0, .ref h), (1, .ref r), (2, .ref a), (3, .int (nI p)), (4, .int sc), (5, .int (nI d)), (6, .int (nI w))]) e_16 hl
        exact ih_5 _ _ _ (by omega) ⟨hP, hD, hS, hl⟩
      · have c_14 : sc = 2 := c_14
        refine lv_aload_n hx hb dX2_surprisesIn_79 rfl (lv_at hl 3 rfl) ?_
        refine z_get (ci := 2) (v := .ref a1) Z zin2 hP 0 rfl rfl 0 (by decide) zm170 rfl rfl dX2_surprisesIn_80 ?_
        refine lv_iload_n hx hb dX2_surprisesIn_83 rfl (lv_at hl 6 rfl) ?_
        refine lv_iload hx hb dX2_surprisesIn_84 (lv_at hl 1 rfl) ?_
        refine z_callVv (As := [.int (nI p), .int (nI (zdi w d i))]) (rest := []) (ci := 6) (k0 := 0) Z hP hD hS hl.1 (zc_X6_expectOnly l D cI cZ a1 b1 (zsg f p sc d w i) p (zdi w d i) (by omega) (by omega)) zm585 zm586 zm587 zm33 zm588 ⟨rfl, zd_X6_expectOnly⟩ ⟨Nat.le_of_ble_eq_true rfl, Nat.le_of_ble_eq_true rfl⟩ ⟨Nat.zero_le _, Nat.zero_le _⟩ [1, 2] rfl (by decide) rfl rfl rfl (fun _ => rfl) rfl (Nat.le_of_ble_eq_true rfl) rfl dX2_surprisesIn_86 (fun u H locs h_18 hP hD hS => ?_)
        have hP : va_P D vwCl [(h, .inr (2, [.ref a1, .int jr])), (a1, .inr (6, [.ref b1])), (b1, .inl (cI, 36, .inl (upd (zeo (zsg f p sc d w i) p 4) (p * 4 + (zdi w d i)) 10))), (r, .inr (3, [.ref ro, .ref rn, .ref rr, .int rt, .int fr, .int pr, .int (nI n), .int (nI m)])), (a, .inr (6, [.ref b])), (b, .inl (cI, 36, .inl f))] H := hP
        have hD : va_D A [(h, .inr (2, [.ref a1, .int jr])), (a1, .inr (6, [.ref b1])), (b1, .inl (cI, 36, .inl (upd (zeo (zsg f p sc d w i) p 4) (p * 4 + (zdi w d i)) 10))), (r, .inr (3, [.ref ro, .ref rn, .ref rr, .int rt, .int fr, .int pr, .int (nI n), .int (nI m)])), (a, .inr (6, [.ref b])), (b, .inl (cI, 36, .inl f))] := hD
        refine lv_iinc (v := nI (i + 1)) (lv' := [(8, .int (nI (i + 1))), (7, .int ((zss f p fr sc d w i) + (zsu ((zsg f p sc d w i) (p * 4 + (zdi w d i))) ((zsg f p sc d w i) (25 + p)) ((zsg f p sc d w i) (30 + p)) (nI (zdi w d i)) fr))), (9, .int (nI (zdi w d i))), (0, .ref h), (1, .ref r), (2, .ref a), (3, .int (nI p)), (4, .int sc), (5, .int (nI d)), (6, .int (nI w))]) hx hb dX2_surprisesIn_89 hl (k := 2) rfl (z_inc _ 1) (by decide) rfl (fun ls hl => ?_)
        refine lv_goto (tgt := 21) hx hb dX2_surprisesIn_92 (by decide) ?_
        have e_19 : upd (zeo (zsg f p sc d w i) p 4) (p * 4 + (zdi w d i)) 10 = zsg f p sc d w (i + 1) := by first | exact z02 (by assumption) (by assumption) | rw [zsg_s, if_pos (by assumption)] | rw [zsg_s, if_neg (by assumption), if_pos (by assumption)] | rw [zsg_s, if_neg (by assumption), if_neg (by assumption)] | rfl
        have hP : va_P D vwCl [(h, .inr (2, [.ref a1, .int jr])), (a1, .inr (6, [.ref b1])), (b1, .inl (cI, 36, .inl (zsg f p sc d w (i + 1)))), (r, .inr (3, [.ref ro, .ref rn, .ref rr, .int rt, .int fr, .int pr, .int (nI n), .int (nI m)])), (a, .inr (6, [.ref b])), (b, .inl (cI, 36, .inl f))] H := Eq.subst (motive := fun zz_ => va_P D vwCl [(h, .inr (2, [.ref a1, .int jr])), (a1, .inr (6, [.ref b1])), (b1, .inl (cI, 36, .inl zz_)), (r, .inr (3, [.ref ro, .ref rn, .ref rr, .int rt, .int fr, .int pr, .int (nI n), .int (nI m)])), (a, .inr (6, [.ref b])), (b, .inl (cI, 36, .inl f))] H) e_19 hP
        have hD : va_D A [(h, .inr (2, [.ref a1, .int jr])), (a1, .inr (6, [.ref b1])), (b1, .inl (cI, 36, .inl (zsg f p sc d w (i + 1)))), (r, .inr (3, [.ref ro, .ref rn, .ref rr, .int rt, .int fr, .int pr, .int (nI n), .int (nI m)])), (a, .inr (6, [.ref b])), (b, .inl (cI, 36, .inl f))] := zD_of hD rfl
        have hl : lv_has ls 10 [(8, .int (nI (i + 1))), (7, .int ((zss f p fr sc d w i) + (zsu ((zsg f p sc d w i) (p * 4 + (zdi w d i))) ((zsg f p sc d w i) (25 + p)) ((zsg f p sc d w i) (30 + p)) (nI (zdi w d i)) fr))), (0, .ref h), (1, .ref r), (2, .ref a), (3, .int (nI p)), (4, .int sc), (5, .int (nI d)), (6, .int (nI w))] := lv_sub hl [0, 1, 3, 4, 5, 6, 7, 8, 9] rfl
        have e_20 : (zss f p fr sc d w i) + (zsu ((zsg f p sc d w i) (p * 4 + (zdi w d i))) ((zsg f p sc d w i) (25 + p)) ((zsg f p sc d w i) (30 + p)) (nI (zdi w d i)) fr) = zss f p fr sc d w (i + 1) := by first | exact z02 (by assumption) (by assumption) | rw [zsg_s, if_pos (by assumption)] | rw [zsg_s, if_neg (by assumption), if_pos (by assumption)] | rw [zsg_s, if_neg (by assumption), if_neg (by assumption)] | rfl
        have hl : lv_has ls 10 [(8, .int (nI (i + 1))), (7, .int (zss f p fr sc d w (i + 1))), (0, .ref h), (1, .ref r), (2, .ref a), (3, .int (nI p)), (4, .int sc), (5, .int (nI d)), (6, .int (nI w))] := Eq.subst (motive := fun zz_ => lv_has ls 10 [(8, .int (nI (i + 1))), (7, .int zz_), (0, .ref h), (1, .ref r), (2, .ref a), (3, .int (nI p)), (4, .int sc), (5, .int (nI d)), (6, .int (nI w))]) e_20 hl
        exact ih_5 _ _ _ (by omega) ⟨hP, hD, hS, hl⟩
    · have c_13 : sc = 0 := c_13
      refine lv_aload_n hx hb dX2_surprisesIn_63 rfl (lv_at hl 3 rfl) ?_
      refine z_get (ci := 2) (v := .ref a1) Z zin2 hP 0 rfl rfl 0 (by decide) zm170 rfl rfl dX2_surprisesIn_64 ?_
      refine lv_iload_n hx hb dX2_surprisesIn_67 rfl (lv_at hl 6 rfl) ?_
      refine lv_iload hx hb dX2_surprisesIn_68 (lv_at hl 1 rfl) ?_
      refine z_callVv (As := [.int (nI p), .int (nI (zdi w d i))]) (rest := []) (ci := 6) (k0 := 0) Z hP hD hS hl.1 (zc_X6_learn l D cI cZ a1 b1 (zsg f p sc d w i) p (zdi w d i) (by omega) (by omega)) zm584 zm402 zm403 zm33 zm404 ⟨rfl, zd_X6_learn⟩ ⟨Nat.le_of_ble_eq_true rfl, Nat.le_of_ble_eq_true rfl⟩ ⟨Nat.zero_le _, Nat.zero_le _⟩ [1, 2] rfl (by decide) rfl rfl rfl (fun _ => rfl) rfl (Nat.le_of_ble_eq_true rfl) rfl dX2_surprisesIn_70 (fun u H locs h_22 hP hD hS => ?_)
      have hP : va_P D vwCl [(h, .inr (2, [.ref a1, .int jr])), (a1, .inr (6, [.ref b1])), (b1, .inl (cI, 36, .inl (zlearn (zsg f p sc d w i) p (zdi w d i)))), (r, .inr (3, [.ref ro, .ref rn, .ref rr, .int rt, .int fr, .int pr, .int (nI n), .int (nI m)])), (a, .inr (6, [.ref b])), (b, .inl (cI, 36, .inl f))] H := hP
      have hD : va_D A [(h, .inr (2, [.ref a1, .int jr])), (a1, .inr (6, [.ref b1])), (b1, .inl (cI, 36, .inl (zlearn (zsg f p sc d w i) p (zdi w d i)))), (r, .inr (3, [.ref ro, .ref rn, .ref rr, .int rt, .int fr, .int pr, .int (nI n), .int (nI m)])), (a, .inr (6, [.ref b])), (b, .inl (cI, 36, .inl f))] := hD
      refine lv_iload hx hb dX2_surprisesIn_73 (lv_at hl 7 rfl) ?_
      refine lv_iconst (v := nI 2) hx hb dX2_surprisesIn_75 (by decide) ?_
      refine lv_icmp_ne (tgt := 89) hx hb dX2_surprisesIn_76 (by decide) (fun c_23 => ?_) (fun c_23 => ?_)
      · have c_23 : ¬ (sc = 2) := c_23
        refine lv_iinc (v := nI (i + 1)) (lv' := [(8, .int (nI (i + 1))), (7, .int ((zss f p fr sc d w i) + (zsu ((zsg f p sc d w i) (p * 4 + (zdi w d i))) ((zsg f p sc d w i) (25 + p)) ((zsg f p sc d w i) (30 + p)) (nI (zdi w d i)) fr))), (9, .int (nI (zdi w d i))), (0, .ref h), (1, .ref r), (2, .ref a), (3, .int (nI p)), (4, .int sc), (5, .int (nI d)), (6, .int (nI w))]) hx hb dX2_surprisesIn_89 hl (k := 2) rfl (z_inc _ 1) (by decide) rfl (fun ls hl => ?_)
        refine lv_goto (tgt := 21) hx hb dX2_surprisesIn_92 (by decide) ?_
        have e_24 : zlearn (zsg f p sc d w i) p (zdi w d i) = zsg f p sc d w (i + 1) := by first | exact z02 (by assumption) (by assumption) | rw [zsg_s, if_pos (by assumption)] | rw [zsg_s, if_neg (by assumption), if_pos (by assumption)] | rw [zsg_s, if_neg (by assumption), if_neg (by assumption)] | rfl
        have hP : va_P D vwCl [(h, .inr (2, [.ref a1, .int jr])), (a1, .inr (6, [.ref b1])), (b1, .inl (cI, 36, .inl (zsg f p sc d w (i + 1)))), (r, .inr (3, [.ref ro, .ref rn, .ref rr, .int rt, .int fr, .int pr, .int (nI n), .int (nI m)])), (a, .inr (6, [.ref b])), (b, .inl (cI, 36, .inl f))] H := Eq.subst (motive := fun zz_ => va_P D vwCl [(h, .inr (2, [.ref a1, .int jr])), (a1, .inr (6, [.ref b1])), (b1, .inl (cI, 36, .inl zz_)), (r, .inr (3, [.ref ro, .ref rn, .ref rr, .int rt, .int fr, .int pr, .int (nI n), .int (nI m)])), (a, .inr (6, [.ref b])), (b, .inl (cI, 36, .inl f))] H) e_24 hP
        have hD : va_D A [(h, .inr (2, [.ref a1, .int jr])), (a1, .inr (6, [.ref b1])), (b1, .inl (cI, 36, .inl (zsg f p sc d w (i + 1)))), (r, .inr (3, [.ref ro, .ref rn, .ref rr, .int rt, .int fr, .int pr, .int (nI n), .int (nI m)])), (a, .inr (6, [.ref b])), (b, .inl (cI, 36, .inl f))] := zD_of hD rfl
        have hl : lv_has ls 10 [(8, .int (nI (i + 1))), (7, .int ((zss f p fr sc d w i) + (zsu ((zsg f p sc d w i) (p * 4 + (zdi w d i))) ((zsg f p sc d w i) (25 + p)) ((zsg f p sc d w i) (30 + p)) (nI (zdi w d i)) fr))), (0, .ref h), (1, .ref r), (2, .ref a), (3, .int (nI p)), (4, .int sc), (5, .int (nI d)), (6, .int (nI w))] := lv_sub hl [0, 1, 3, 4, 5, 6, 7, 8, 9] rfl
        have e_25 : (zss f p fr sc d w i) + (zsu ((zsg f p sc d w i) (p * 4 + (zdi w d i))) ((zsg f p sc d w i) (25 + p)) ((zsg f p sc d w i) (30 + p)) (nI (zdi w d i)) fr) = zss f p fr sc d w (i + 1) := by first | exact z02 (by assumption) (by assumption) | rw [zsg_s, if_pos (by assumption)] | rw [zsg_s, if_neg (by assumption), if_pos (by assumption)] | rw [zsg_s, if_neg (by assumption), if_neg (by assumption)] | rfl
        have hl : lv_has ls 10 [(8, .int (nI (i + 1))), (7, .int (zss f p fr sc d w (i + 1))), (0, .ref h), (1, .ref r), (2, .ref a), (3, .int (nI p)), (4, .int sc), (5, .int (nI d)), (6, .int (nI w))] := Eq.subst (motive := fun zz_ => lv_has ls 10 [(8, .int (nI (i + 1))), (7, .int zz_), (0, .ref h), (1, .ref r), (2, .ref a), (3, .int (nI p)), (4, .int sc), (5, .int (nI d)), (6, .int (nI w))]) e_25 hl
        exact ih_5 _ _ _ (by omega) ⟨hP, hD, hS, hl⟩
      · have c_23 : sc = 2 := c_23
        refine lv_aload_n hx hb dX2_surprisesIn_79 rfl (lv_at hl 3 rfl) ?_
        refine z_get (ci := 2) (v := .ref a1) Z zin2 hP 0 rfl rfl 0 (by decide) zm170 rfl rfl dX2_surprisesIn_80 ?_
        refine lv_iload_n hx hb dX2_surprisesIn_83 rfl (lv_at hl 6 rfl) ?_
        refine lv_iload hx hb dX2_surprisesIn_84 (lv_at hl 1 rfl) ?_
        refine z_callVv (As := [.int (nI p), .int (nI (zdi w d i))]) (rest := []) (ci := 6) (k0 := 0) Z hP hD hS hl.1 (zc_X6_expectOnly l D cI cZ a1 b1 (zlearn (zsg f p sc d w i) p (zdi w d i)) p (zdi w d i) (by omega) (by omega)) zm585 zm586 zm587 zm33 zm588 ⟨rfl, zd_X6_expectOnly⟩ ⟨Nat.le_of_ble_eq_true rfl, Nat.le_of_ble_eq_true rfl⟩ ⟨Nat.zero_le _, Nat.zero_le _⟩ [1, 2] rfl (by decide) rfl rfl rfl (fun _ => rfl) rfl (Nat.le_of_ble_eq_true rfl) rfl dX2_surprisesIn_86 (fun u H locs h_27 hP hD hS => ?_)
        have hP : va_P D vwCl [(h, .inr (2, [.ref a1, .int jr])), (a1, .inr (6, [.ref b1])), (b1, .inl (cI, 36, .inl (upd (zeo (zlearn (zsg f p sc d w i) p (zdi w d i)) p 4) (p * 4 + (zdi w d i)) 10))), (r, .inr (3, [.ref ro, .ref rn, .ref rr, .int rt, .int fr, .int pr, .int (nI n), .int (nI m)])), (a, .inr (6, [.ref b])), (b, .inl (cI, 36, .inl f))] H := hP
        have hD : va_D A [(h, .inr (2, [.ref a1, .int jr])), (a1, .inr (6, [.ref b1])), (b1, .inl (cI, 36, .inl (upd (zeo (zlearn (zsg f p sc d w i) p (zdi w d i)) p 4) (p * 4 + (zdi w d i)) 10))), (r, .inr (3, [.ref ro, .ref rn, .ref rr, .int rt, .int fr, .int pr, .int (nI n), .int (nI m)])), (a, .inr (6, [.ref b])), (b, .inl (cI, 36, .inl f))] := hD
        refine lv_iinc (v := nI (i + 1)) (lv' := [(8, .int (nI (i + 1))), (7, .int ((zss f p fr sc d w i) + (zsu ((zsg f p sc d w i) (p * 4 + (zdi w d i))) ((zsg f p sc d w i) (25 + p)) ((zsg f p sc d w i) (30 + p)) (nI (zdi w d i)) fr))), (9, .int (nI (zdi w d i))), (0, .ref h), (1, .ref r), (2, .ref a), (3, .int (nI p)), (4, .int sc), (5, .int (nI d)), (6, .int (nI w))]) hx hb dX2_surprisesIn_89 hl (k := 2) rfl (z_inc _ 1) (by decide) rfl (fun ls hl => ?_)
        refine lv_goto (tgt := 21) hx hb dX2_surprisesIn_92 (by decide) ?_
        have e_28 : upd (zeo (zlearn (zsg f p sc d w i) p (zdi w d i)) p 4) (p * 4 + (zdi w d i)) 10 = zsg f p sc d w (i + 1) := by first | exact z02 (by assumption) (by assumption) | rw [zsg_s, if_pos (by assumption)] | rw [zsg_s, if_neg (by assumption), if_pos (by assumption)] | rw [zsg_s, if_neg (by assumption), if_neg (by assumption)] | rfl
        have hP : va_P D vwCl [(h, .inr (2, [.ref a1, .int jr])), (a1, .inr (6, [.ref b1])), (b1, .inl (cI, 36, .inl (zsg f p sc d w (i + 1)))), (r, .inr (3, [.ref ro, .ref rn, .ref rr, .int rt, .int fr, .int pr, .int (nI n), .int (nI m)])), (a, .inr (6, [.ref b])), (b, .inl (cI, 36, .inl f))] H := Eq.subst (motive := fun zz_ => va_P D vwCl [(h, .inr (2, [.ref a1, .int jr])), (a1, .inr (6, [.ref b1])), (b1, .inl (cI, 36, .inl zz_)), (r, .inr (3, [.ref ro, .ref rn, .ref rr, .int rt, .int fr, .int pr, .int (nI n), .int (nI m)])), (a, .inr (6, [.ref b])), (b, .inl (cI, 36, .inl f))] H) e_28 hP
        have hD : va_D A [(h, .inr (2, [.ref a1, .int jr])), (a1, .inr (6, [.ref b1])), (b1, .inl (cI, 36, .inl (zsg f p sc d w (i + 1)))), (r, .inr (3, [.ref ro, .ref rn, .ref rr, .int rt, .int fr, .int pr, .int (nI n), .int (nI m)])), (a, .inr (6, [.ref b])), (b, .inl (cI, 36, .inl f))] := zD_of hD rfl
        have hl : lv_has ls 10 [(8, .int (nI (i + 1))), (7, .int ((zss f p fr sc d w i) + (zsu ((zsg f p sc d w i) (p * 4 + (zdi w d i))) ((zsg f p sc d w i) (25 + p)) ((zsg f p sc d w i) (30 + p)) (nI (zdi w d i)) fr))), (0, .ref h), (1, .ref r), (2, .ref a), (3, .int (nI p)), (4, .int sc), (5, .int (nI d)), (6, .int (nI w))] := lv_sub hl [0, 1, 3, 4, 5, 6, 7, 8, 9] rfl
        have e_29 : (zss f p fr sc d w i) + (zsu ((zsg f p sc d w i) (p * 4 + (zdi w d i))) ((zsg f p sc d w i) (25 + p)) ((zsg f p sc d w i) (30 + p)) (nI (zdi w d i)) fr) = zss f p fr sc d w (i + 1) := by first | exact z02 (by assumption) (by assumption) | rw [zsg_s, if_pos (by assumption)] | rw [zsg_s, if_neg (by assumption), if_pos (by assumption)] | rw [zsg_s, if_neg (by assumption), if_neg (by assumption)] | rfl
        have hl : lv_has ls 10 [(8, .int (nI (i + 1))), (7, .int (zss f p fr sc d w (i + 1))), (0, .ref h), (1, .ref r), (2, .ref a), (3, .int (nI p)), (4, .int sc), (5, .int (nI d)), (6, .int (nI w))] := Eq.subst (motive := fun zz_ => lv_has ls 10 [(8, .int (nI (i + 1))), (7, .int zz_), (0, .ref h), (1, .ref r), (2, .ref a), (3, .int (nI p)), (4, .int sc), (5, .int (nI d)), (6, .int (nI w))]) e_29 hl
        exact ih_5 _ _ _ (by omega) ⟨hP, hD, hS, hl⟩
