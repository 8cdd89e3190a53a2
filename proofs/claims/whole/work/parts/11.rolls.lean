theorem dX0_count_0 : decode cX0_count 0 = .ok (.aload_n 0, 1) := by decide +kernel
theorem dX0_count_1 : decode cX0_count 1 = .ok (.getfield 17, 3) := by decide +kernel
theorem dX0_count_4 : decode cX0_count 4 = .ok (.ireturn, 1) := by decide +kernel
theorem zd_X0_count : yX0_count.cls ≠ "java/lang/invoke/MethodHandle" ∧ yX0_count.cls ≠ "java/lang/invoke/VarHandle" ∧ (parseMethodDescriptor yX0_count.desc).map (fun d => d.parameters.length) = some 0 := by decide +kernel
set_option maxHeartbeats 4000000 in
set_option maxRecDepth 100000 in
theorem zc_X0_count (l : Launch) (D : va_G) (cI cZ : ClassId) (x : Nat) (xs : Nat) (cn : Nat) (nx : Nat) : zI l yX0_count cX0_count 1 .int 0 0 D cI cZ [.ref x] [(x, .inr (0, [.ref xs, .int (nI cn), .int (nI nx)]))] (fun (r : Int32) (u : Unit) => r = nI cn) (fun (u : Unit) => [(x, .inr (0, [.ref xs, .int (nI cn), .int (nI nx)]))]) := by
  refine zI_of (by decide) (Nat.le_of_ble_eq_true rfl) ?_
  intro pP eE sS mM aA bB mT cC A ls Z hP hD hS hl
  have hx := Z.1
  have hb := Z.2.1
  have hown := Z.2.2.2.2.2.1
  have hts := Z.2.2.2.2.1
  have Z : zAt pP sS mM aA mT cC D cI cZ A "SurpriseTax$Acts" cX0_count 1 (some .int) := Z
  have hl : lv_has ls 1 [(0, .ref x)] := hl
  obtain ⟨H, hH⟩ : ∃ H, H = sS.heap := ⟨_, rfl⟩
  have hP : va_P D vwCl [(x, .inr (0, [.ref xs, .int (nI cn), .int (nI nx)]))] H := by rw [hH]; exact hP
  have hS : va_S A sS.heap H [] := by rw [hH]; exact hS
  rw [← hH]
  clear hH
  obtain ⟨locs, hlo⟩ : ∃ q : List Loc, q = [] := ⟨_, rfl⟩
  rw [← hlo] at hS ⊢
  clear hlo
  refine lv_aload_n hx hb dX0_count_0 rfl (lv_at hl 0 rfl) ?_
  refine z_get (ci := 0) (v := .int (nI cn)) Z zin0 hP 0 rfl rfl 1 (by decide) zm118 rfl rfl dX0_count_1 ?_
  exact z_iret Z () rfl hP hS dX0_count_4

theorem dX0_clear_0 : decode cX0_clear 0 = .ok (.aload_n 0, 1) := by decide +kernel
theorem dX0_clear_1 : decode cX0_clear 1 = .ok (.iconst 0, 1) := by decide +kernel
theorem dX0_clear_2 : decode cX0_clear 2 = .ok (.putfield 17, 3) := by decide +kernel
theorem dX0_clear_5 : decode cX0_clear 5 = .ok (.return_, 1) := by decide +kernel
theorem zd_X0_clear : yX0_clear.cls ≠ "java/lang/invoke/MethodHandle" ∧ yX0_clear.cls ≠ "java/lang/invoke/VarHandle" ∧ (parseMethodDescriptor yX0_clear.desc).map (fun d => d.parameters.length) = some 0 := by decide +kernel
set_option maxHeartbeats 4000000 in
set_option maxRecDepth 100000 in
theorem zc_X0_clear (l : Launch) (D : va_G) (cI cZ : ClassId) (x : Nat) (xs : Nat) (cn : Nat) (nx : Nat) : zV l yX0_clear cX0_clear 1 0 0 D cI cZ [.ref x] [(x, .inr (0, [.ref xs, .int (nI cn), .int (nI nx)]))] (fun (u : Unit) => True) (fun (u : Unit) => [(x, .inr (0, [.ref xs, .int (nI 0), .int (nI nx)]))]) := by
  refine zV_of (by decide) (Nat.le_of_ble_eq_true rfl) ?_
  intro pP eE sS mM aA bB mT cC A ls Z hP hD hS hl
  have hx := Z.1
  have hb := Z.2.1
  have hown := Z.2.2.2.2.2.1
  have hts := Z.2.2.2.2.1
  have Z : zAt pP sS mM aA mT cC D cI cZ A "SurpriseTax$Acts" cX0_clear 1 none := Z
  have hl : lv_has ls 1 [(0, .ref x)] := hl
  obtain ⟨H, hH⟩ : ∃ H, H = sS.heap := ⟨_, rfl⟩
  have hP : va_P D vwCl [(x, .inr (0, [.ref xs, .int (nI cn), .int (nI nx)]))] H := by rw [hH]; exact hP
  have hS : va_S A sS.heap H [] := by rw [hH]; exact hS
  rw [← hH]
  clear hH
  obtain ⟨locs, hlo⟩ : ∃ q : List Loc, q = [] := ⟨_, rfl⟩
  rw [← hlo] at hS ⊢
  clear hlo
  refine lv_aload_n hx hb dX0_clear_0 rfl (lv_at hl 0 rfl) ?_
  refine lv_iconst (v := nI 0) hx hb dX0_clear_1 (by decide) ?_
  refine z_put (ci := 0) (v := .int (nI 0)) Z zin0 tyX0 tyX0_ok nmX0 hP hD hS 0 rfl rfl 1 (by decide) zm118 rfl rfl rfl rfl (Nat.le_of_ble_eq_true rfl) dX0_clear_2 (fun H locs hP hD hS => ?_)
  have hP : va_P D vwCl [(x, .inr (0, [.ref xs, .int (nI 0), .int (nI nx)]))] H := hP
  have hD : va_D A [(x, .inr (0, [.ref xs, .int (nI 0), .int (nI nx)]))] := hD
  exact z_vret Z () trivial hP hS dX0_clear_5

theorem dX0_remember_0 : decode cX0_remember 0 = .ok (.aload_n 1, 1) := by decide +kernel
theorem dX0_remember_1 : decode cX0_remember 1 = .ok (.aload_n 0, 1) := by decide +kernel
theorem dX0_remember_2 : decode cX0_remember 2 = .ok (.getfield 11, 3) := by decide +kernel
theorem dX0_remember_5 : decode cX0_remember 5 = .ok (.aload_n 0, 1) := by decide +kernel
theorem dX0_remember_6 : decode cX0_remember 6 = .ok (.getfield 21, 3) := by decide +kernel
theorem dX0_remember_9 : decode cX0_remember 9 = .ok (.invokevirtual 24, 3) := by decide +kernel
theorem dX0_remember_12 : decode cX0_remember 12 = .ok (.aload_n 0, 1) := by decide +kernel
theorem dX0_remember_13 : decode cX0_remember 13 = .ok (.aload_n 0, 1) := by decide +kernel
theorem dX0_remember_14 : decode cX0_remember 14 = .ok (.getfield 21, 3) := by decide +kernel
theorem dX0_remember_17 : decode cX0_remember 17 = .ok (.iconst 1, 1) := by decide +kernel
theorem dX0_remember_18 : decode cX0_remember 18 = .ok (.iadd, 1) := by decide +kernel
theorem dX0_remember_19 : decode cX0_remember 19 = .ok (.bipush 12, 2) := by decide +kernel
theorem dX0_remember_21 : decode cX0_remember 21 = .ok (.if_icmp .ge 12, 3) := by decide +kernel
theorem dX0_remember_24 : decode cX0_remember 24 = .ok (.aload_n 0, 1) := by decide +kernel
theorem dX0_remember_25 : decode cX0_remember 25 = .ok (.getfield 21, 3) := by decide +kernel
theorem dX0_remember_28 : decode cX0_remember 28 = .ok (.iconst 1, 1) := by decide +kernel
theorem dX0_remember_29 : decode cX0_remember 29 = .ok (.iadd, 1) := by decide +kernel
theorem dX0_remember_30 : decode cX0_remember 30 = .ok (.goto 4, 3) := by decide +kernel
theorem dX0_remember_33 : decode cX0_remember 33 = .ok (.iconst 0, 1) := by decide +kernel
theorem dX0_remember_34 : decode cX0_remember 34 = .ok (.putfield 21, 3) := by decide +kernel
theorem dX0_remember_37 : decode cX0_remember 37 = .ok (.aload_n 0, 1) := by decide +kernel
theorem dX0_remember_38 : decode cX0_remember 38 = .ok (.bipush 12, 2) := by decide +kernel
theorem dX0_remember_40 : decode cX0_remember 40 = .ok (.aload_n 0, 1) := by decide +kernel
theorem dX0_remember_41 : decode cX0_remember 41 = .ok (.getfield 17, 3) := by decide +kernel
theorem dX0_remember_44 : decode cX0_remember 44 = .ok (.iconst 1, 1) := by decide +kernel
theorem dX0_remember_45 : decode cX0_remember 45 = .ok (.iadd, 1) := by decide +kernel
theorem dX0_remember_46 : decode cX0_remember 46 = .ok (.invokestatic 28, 3) := by decide +kernel
theorem dX0_remember_49 : decode cX0_remember 49 = .ok (.putfield 17, 3) := by decide +kernel
theorem dX0_remember_52 : decode cX0_remember 52 = .ok (.return_, 1) := by decide +kernel
theorem zd_X0_remember : yX0_remember.cls ≠ "java/lang/invoke/MethodHandle" ∧ yX0_remember.cls ≠ "java/lang/invoke/VarHandle" ∧ (parseMethodDescriptor yX0_remember.desc).map (fun d => d.parameters.length) = some 1 := by decide +kernel
set_option maxHeartbeats 4000000 in
set_option maxRecDepth 100000 in
theorem zc_X0_remember (l : Launch) (D : va_G) (cI cZ : ClassId) (x : Nat) (xs : Nat) (cn : Nat) (nx : Nat) (sf : Nat → Int32) (a : Nat) (b : Nat) (f : Nat → Int32) (hcn : cn ≤ 12) (hnx : nx < 12) : zV l yX0_remember cX0_remember 2 2 40 D cI cZ [.ref x, .ref a] [(x, .inr (0, [.ref xs, .int (nI cn), .int (nI nx)])), (xs, .inl (cI, 432, .inl sf)), (a, .inr (6, [.ref b])), (b, .inl (cI, 36, .inl f))] (fun (u : Unit) => True) (fun (u : Unit) => [(x, .inr (0, [.ref xs, .int (nI (zcn cn)), .int (nI (znx nx))])), (xs, .inl (cI, 432, .inl (va_cpy f sf 0 (nx * 36) 36))), (a, .inr (6, [.ref b])), (b, .inl (cI, 36, .inl f))]) := by
  refine zV_of (by decide) (Nat.le_of_ble_eq_true rfl) ?_
  intro pP eE sS mM aA bB mT cC A ls Z hP hD hS hl
  have hx := Z.1
  have hb := Z.2.1
  have hown := Z.2.2.2.2.2.1
  have hts := Z.2.2.2.2.1
  have Z : zAt pP sS mM aA mT cC D cI cZ A "SurpriseTax$Acts" cX0_remember 2 none := Z
  have hl : lv_has ls 2 [(0, .ref x), (1, .ref a)] := hl
  obtain ⟨H, hH⟩ : ∃ H, H = sS.heap := ⟨_, rfl⟩
  have hP : va_P D vwCl [(x, .inr (0, [.ref xs, .int (nI cn), .int (nI nx)])), (xs, .inl (cI, 432, .inl sf)), (a, .inr (6, [.ref b])), (b, .inl (cI, 36, .inl f))] H := by rw [hH]; exact hP
  have hS : va_S A sS.heap H [] := by rw [hH]; exact hS
  rw [← hH]
  clear hH
  obtain ⟨locs, hlo⟩ : ∃ q : List Loc, q = [] := ⟨_, rfl⟩
  rw [← hlo] at hS ⊢
  clear hlo
  refine lv_aload_n hx hb dX0_remember_0 rfl (lv_at hl 1 rfl) ?_
  refine lv_aload_n hx hb dX0_remember_1 rfl (lv_at hl 0 rfl) ?_
  refine z_get (ci := 0) (v := .ref xs) Z zin0 hP 0 rfl rfl 0 (by decide) zm117 rfl rfl dX0_remember_2 ?_
  refine lv_aload_n hx hb dX0_remember_5 rfl (lv_at hl 0 rfl) ?_
  refine z_get (ci := 0) (v := .int (nI nx)) Z zin0 hP 0 rfl rfl 2 (by decide) zm119 rfl rfl dX0_remember_6 ?_
  refine z_callVv (As := [.ref xs, .int (nI nx)]) (rest := []) (ci := 6) (k0 := 0) Z hP hD hS hl.1 (zc_X6_saveTo l D cI cZ a b f xs 432 sf nx (by omega) (by omega)) zm355 zm356 zm357 zm33 zm358 ⟨rfl, zd_X6_saveTo⟩ ⟨Nat.le_of_ble_eq_true rfl, Nat.le_of_ble_eq_true rfl⟩ ⟨Nat.zero_le _, Nat.zero_le _⟩ [2, 3, 1] rfl (by decide) rfl rfl rfl (fun _ => rfl) rfl (Nat.le_of_ble_eq_true rfl) rfl dX0_remember_9 (fun u H locs h_2 hP hD hS => ?_)
  have hP : va_P D vwCl [(x, .inr (0, [.ref xs, .int (nI cn), .int (nI nx)])), (xs, .inl (cI, 432, .inl (va_cpy f sf 0 (nx * 36) 36))), (a, .inr (6, [.ref b])), (b, .inl (cI, 36, .inl f))] H := hP
  have hD : va_D A [(x, .inr (0, [.ref xs, .int (nI cn), .int (nI nx)])), (xs, .inl (cI, 432, .inl (va_cpy f sf 0 (nx * 36) 36))), (a, .inr (6, [.ref b])), (b, .inl (cI, 36, .inl f))] := hD
  refine lv_aload_n hx hb dX0_remember_12 rfl (lv_at hl 0 rfl) ?_
  refine lv_aload_n hx hb dX0_remember_13 rfl (lv_at hl 0 rfl) ?_
  refine z_get (ci := 0) (v := .int (nI nx)) Z zin0 hP 0 rfl rfl 2 (by decide) zm119 rfl rfl dX0_remember_14 ?_
  refine lv_iconst (v := nI 1) hx hb dX0_remember_17 (by decide) ?_
  refine lv_iadd hx hb dX0_remember_18 ?_
  refine z_top (y := nI (nx + 1)) (z_add _ _) ?_
  refine lv_bipush (v := nI 12) hx hb dX0_remember_19 (by decide) ?_
  refine lv_icmp_ge (tgt := 33) hx hb dX0_remember_21 (by decide) (fun c_3 => ?_) (fun c_3 => ?_)
  · have c_3 := zle (i := 12) (j := nx + 1) (by decide) (by omega) c_3
    refine lv_iconst (v := nI 0) hx hb dX0_remember_33 (by decide) ?_
    refine z_put (ci := 0) (v := .int (nI 0)) Z zin0 tyX0 tyX0_ok nmX0 hP hD hS 0 rfl rfl 2 (by decide) zm119 rfl rfl rfl rfl (Nat.le_of_ble_eq_true rfl) dX0_remember_34 (fun H locs hP hD hS => ?_)
    have hP : va_P D vwCl [(x, .inr (0, [.ref xs, .int (nI cn), .int (nI 0)])), (xs, .inl (cI, 432, .inl (va_cpy f sf 0 (nx * 36) 36))), (a, .inr (6, [.ref b])), (b, .inl (cI, 36, .inl f))] H := hP
    have hD : va_D A [(x, .inr (0, [.ref xs, .int (nI cn), .int (nI 0)])), (xs, .inl (cI, 432, .inl (va_cpy f sf 0 (nx * 36) 36))), (a, .inr (6, [.ref b])), (b, .inl (cI, 36, .inl f))] := hD
    refine lv_aload_n hx hb dX0_remember_37 rfl (lv_at hl 0 rfl) ?_
    refine lv_bipush (v := nI 12) hx hb dX0_remember_38 (by decide) ?_
    refine lv_aload_n hx hb dX0_remember_40 rfl (lv_at hl 0 rfl) ?_
    refine z_get (ci := 0) (v := .int (nI cn)) Z zin0 hP 0 rfl rfl 1 (by decide) zm118 rfl rfl dX0_remember_41 ?_
    refine lv_iconst (v := nI 1) hx hb dX0_remember_44 (by decide) ?_
    refine lv_iadd hx hb dX0_remember_45 ?_
    refine z_top (y := nI (cn + 1)) (z_add _ _) ?_
    refine z_min Z hl.1 zm362 zm245 zm40 zm246 (Nat.le_of_ble_eq_true rfl) (Nat.le_of_ble_eq_true rfl) (Nat.zero_le _) (Nat.zero_le _) dX0_remember_46 ?_
    refine z_top (y := if (nI (cn + 1)) < 12 then (nI (cn + 1)) else 12) rfl ?_
    refine z_top (y := nI (zcn cn)) (zcn_eq (by omega)) ?_
    refine z_put (ci := 0) (v := .int (nI (zcn cn))) Z zin0 tyX0 tyX0_ok nmX0 hP hD hS 0 rfl rfl 1 (by decide) zm118 rfl rfl rfl rfl (Nat.le_of_ble_eq_true rfl) dX0_remember_49 (fun H locs hP hD hS => ?_)
    have hP : va_P D vwCl [(x, .inr (0, [.ref xs, .int (nI (zcn cn)), .int (nI 0)])), (xs, .inl (cI, 432, .inl (va_cpy f sf 0 (nx * 36) 36))), (a, .inr (6, [.ref b])), (b, .inl (cI, 36, .inl f))] H := hP
    have hD : va_D A [(x, .inr (0, [.ref xs, .int (nI (zcn cn)), .int (nI 0)])), (xs, .inl (cI, 432, .inl (va_cpy f sf 0 (nx * 36) 36))), (a, .inr (6, [.ref b])), (b, .inl (cI, 36, .inl f))] := hD
    have e_4 : nI 0 = nI (znx nx) := by first | rfl | (unfold znx; first | rw [if_pos (by omega)] | rw [if_neg (by omega)])
    have hP : va_P D vwCl [(x, .inr (0, [.ref xs, .int (nI (zcn cn)), .int (nI (znx nx))])), (xs, .inl (cI, 432, .inl (va_cpy f sf 0 (nx * 36) 36))), (a, .inr (6, [.ref b])), (b, .inl (cI, 36, .inl f))] H := Eq.subst (motive := fun zz_ => va_P D vwCl [(x, .inr (0, [.ref xs, .int (nI (zcn cn)), .int zz_])), (xs, .inl (cI, 432, .inl (va_cpy f sf 0 (nx * 36) 36))), (a, .inr (6, [.ref b])), (b, .inl (cI, 36, .inl f))] H) e_4 hP
    have hD : va_D A [(x, .inr (0, [.ref xs, .int (nI (zcn cn)), .int (nI (znx nx))])), (xs, .inl (cI, 432, .inl (va_cpy f sf 0 (nx * 36) 36))), (a, .inr (6, [.ref b])), (b, .inl (cI, 36, .inl f))] := zD_of hD rfl
    exact z_vret Z () trivial hP hS dX0_remember_52
  · have c_3 := znle (i := 12) (j := nx + 1) (by decide) (by omega) c_3
    refine lv_aload_n hx hb dX0_remember_24 rfl (lv_at hl 0 rfl) ?_
    refine z_get (ci := 0) (v := .int (nI nx)) Z zin0 hP 0 rfl rfl 2 (by decide) zm119 rfl rfl dX0_remember_25 ?_
    refine lv_iconst (v := nI 1) hx hb dX0_remember_28 (by decide) ?_
    refine lv_iadd hx hb dX0_remember_29 ?_
    refine z_top (y := nI (nx + 1)) (z_add _ _) ?_
    refine lv_goto (tgt := 34) hx hb dX0_remember_30 (by decide) ?_
    refine z_put (ci := 0) (v := .int (nI (nx + 1))) Z zin0 tyX0 tyX0_ok nmX0 hP hD hS 0 rfl rfl 2 (by decide) zm119 rfl rfl rfl rfl (Nat.le_of_ble_eq_true rfl) dX0_remember_34 (fun H locs hP hD hS => ?_)
    have hP : va_P D vwCl [(x, .inr (0, [.ref xs, .int (nI cn), .int (nI (nx + 1))])), (xs, .inl (cI, 432, .inl (va_cpy f sf 0 (nx * 36) 36))), (a, .inr (6, [.ref b])), (b, .inl (cI, 36, .inl f))] H := hP
    have hD : va_D A [(x, .inr (0, [.ref xs, .int (nI cn), .int (nI (nx + 1))])), (xs, .inl (cI, 432, .inl (va_cpy f sf 0 (nx * 36) 36))), (a, .inr (6, [.ref b])), (b, .inl (cI, 36, .inl f))] := hD
    refine lv_aload_n hx hb dX0_remember_37 rfl (lv_at hl 0 rfl) ?_
    refine lv_bipush (v := nI 12) hx hb dX0_remember_38 (by decide) ?_
    refine lv_aload_n hx hb dX0_remember_40 rfl (lv_at hl 0 rfl) ?_
    refine z_get (ci := 0) (v := .int (nI cn)) Z zin0 hP 0 rfl rfl 1 (by decide) zm118 rfl rfl dX0_remember_41 ?_
    refine lv_iconst (v := nI 1) hx hb dX0_remember_44 (by decide) ?_
    refine lv_iadd hx hb dX0_remember_45 ?_
    refine z_top (y := nI (cn + 1)) (z_add _ _) ?_
    refine z_min Z hl.1 zm362 zm245 zm40 zm246 (Nat.le_of_ble_eq_true rfl) (Nat.le_of_ble_eq_true rfl) (Nat.zero_le _) (Nat.zero_le _) dX0_remember_46 ?_
    refine z_top (y := if (nI (cn + 1)) < 12 then (nI (cn + 1)) else 12) rfl ?_
    refine z_top (y := nI (zcn cn)) (zcn_eq (by omega)) ?_
    refine z_put (ci := 0) (v := .int (nI (zcn cn))) Z zin0 tyX0 tyX0_ok nmX0 hP hD hS 0 rfl rfl 1 (by decide) zm118 rfl rfl rfl rfl (Nat.le_of_ble_eq_true rfl) dX0_remember_49 (fun H locs hP hD hS => ?_)
    have hP : va_P D vwCl [(x, .inr (0, [.ref xs, .int (nI (zcn cn)), .int (nI (nx + 1))])), (xs, .inl (cI, 432, .inl (va_cpy f sf 0 (nx * 36) 36))), (a, .inr (6, [.ref b])), (b, .inl (cI, 36, .inl f))] H := hP
    have hD : va_D A [(x, .inr (0, [.ref xs, .int (nI (zcn cn)), .int (nI (nx + 1))])), (xs, .inl (cI, 432, .inl (va_cpy f sf 0 (nx * 36) 36))), (a, .inr (6, [.ref b])), (b, .inl (cI, 36, .inl f))] := hD
    have e_5 : nI (nx + 1) = nI (znx nx) := by first | rfl | (unfold znx; first | rw [if_pos (by omega)] | rw [if_neg (by omega)])
    have hP : va_P D vwCl [(x, .inr (0, [.ref xs, .int (nI (zcn cn)), .int (nI (znx nx))])), (xs, .inl (cI, 432, .inl (va_cpy f sf 0 (nx * 36) 36))), (a, .inr (6, [.ref b])), (b, .inl (cI, 36, .inl f))] H := Eq.subst (motive := fun zz_ => va_P D vwCl [(x, .inr (0, [.ref xs, .int (nI (zcn cn)), .int zz_])), (xs, .inl (cI, 432, .inl (va_cpy f sf 0 (nx * 36) 36))), (a, .inr (6, [.ref b])), (b, .inl (cI, 36, .inl f))] H) e_5 hP
    have hD : va_D A [(x, .inr (0, [.ref xs, .int (nI (zcn cn)), .int (nI (znx nx))])), (xs, .inl (cI, 432, .inl (va_cpy f sf 0 (nx * 36) 36))), (a, .inr (6, [.ref b])), (b, .inl (cI, 36, .inl f))] := zD_of hD rfl
    exact z_vret Z () trivial hP hS dX0_remember_52

theorem dX0_takeBack_0 : decode cX0_takeBack 0 = .ok (.aload_n 0, 1) := by decide +kernel
theorem dX0_takeBack_1 : decode cX0_takeBack 1 = .ok (.getfield 17, 3) := by decide +kernel
theorem dX0_takeBack_4 : decode cX0_takeBack 4 = .ok (.ifCond .ne 4, 3) := by decide +kernel
theorem dX0_takeBack_8 : decode cX0_takeBack 8 = .ok (.aload_n 0, 1) := by decide +kernel
theorem dX0_takeBack_9 : decode cX0_takeBack 9 = .ok (.aload_n 0, 1) := by decide +kernel
theorem dX0_takeBack_10 : decode cX0_takeBack 10 = .ok (.getfield 21, 3) := by decide +kernel
theorem dX0_takeBack_13 : decode cX0_takeBack 13 = .ok (.ifCond .le 12, 3) := by decide +kernel
theorem dX0_takeBack_16 : decode cX0_takeBack 16 = .ok (.aload_n 0, 1) := by decide +kernel
theorem dX0_takeBack_17 : decode cX0_takeBack 17 = .ok (.getfield 21, 3) := by decide +kernel
theorem dX0_takeBack_20 : decode cX0_takeBack 20 = .ok (.iconst 1, 1) := by decide +kernel
theorem dX0_takeBack_21 : decode cX0_takeBack 21 = .ok (.isub, 1) := by decide +kernel
theorem dX0_takeBack_22 : decode cX0_takeBack 22 = .ok (.goto 5, 3) := by decide +kernel
theorem dX0_takeBack_25 : decode cX0_takeBack 25 = .ok (.bipush 11, 2) := by decide +kernel
theorem dX0_takeBack_27 : decode cX0_takeBack 27 = .ok (.putfield 21, 3) := by decide +kernel
theorem dX0_takeBack_30 : decode cX0_takeBack 30 = .ok (.aload_n 0, 1) := by decide +kernel
theorem dX0_takeBack_31 : decode cX0_takeBack 31 = .ok (.dup, 1) := by decide +kernel
theorem dX0_takeBack_32 : decode cX0_takeBack 32 = .ok (.getfield 17, 3) := by decide +kernel
theorem dX0_takeBack_35 : decode cX0_takeBack 35 = .ok (.iconst 1, 1) := by decide +kernel
theorem dX0_takeBack_36 : decode cX0_takeBack 36 = .ok (.isub, 1) := by decide +kernel
theorem dX0_takeBack_37 : decode cX0_takeBack 37 = .ok (.putfield 17, 3) := by decide +kernel
theorem dX0_takeBack_40 : decode cX0_takeBack 40 = .ok (.aload_n 1, 1) := by decide +kernel
theorem dX0_takeBack_41 : decode cX0_takeBack 41 = .ok (.aload_n 0, 1) := by decide +kernel
theorem dX0_takeBack_42 : decode cX0_takeBack 42 = .ok (.getfield 11, 3) := by decide +kernel
theorem dX0_takeBack_45 : decode cX0_takeBack 45 = .ok (.aload_n 0, 1) := by decide +kernel
theorem dX0_takeBack_46 : decode cX0_takeBack 46 = .ok (.getfield 21, 3) := by decide +kernel
theorem dX0_takeBack_49 : decode cX0_takeBack 49 = .ok (.invokevirtual 34, 3) := by decide +kernel
theorem dX0_takeBack_52 : decode cX0_takeBack 52 = .ok (.return_, 1) := by decide +kernel
theorem zd_X0_takeBack : yX0_takeBack.cls ≠ "java/lang/invoke/MethodHandle" ∧ yX0_takeBack.cls ≠ "java/lang/invoke/VarHandle" ∧ (parseMethodDescriptor yX0_takeBack.desc).map (fun d => d.parameters.length) = some 1 := by decide +kernel
set_option maxHeartbeats 4000000 in
set_option maxRecDepth 100000 in
theorem zc_X0_takeBack (l : Launch) (D : va_G) (cI cZ : ClassId) (x : Nat) (xs : Nat) (cn : Nat) (nx : Nat) (sf : Nat → Int32) (a : Nat) (b : Nat) (f : Nat → Int32) (hcn : cn ≤ 12) (hnx : nx < 12) (hc0 : 0 < cn) : zV l yX0_takeBack cX0_takeBack 2 2 40 D cI cZ [.ref x, .ref a] [(x, .inr (0, [.ref xs, .int (nI cn), .int (nI nx)])), (xs, .inl (cI, 432, .inl sf)), (a, .inr (6, [.ref b])), (b, .inl (cI, 36, .inl f))] (fun (u : Unit) => True) (fun (u : Unit) => [(x, .inr (0, [.ref xs, .int (nI (cn - 1)), .int (nI (zpx nx))])), (xs, .inl (cI, 432, .inl sf)), (a, .inr (6, [.ref b])), (b, .inl (cI, 36, .inl (va_cpy sf f (zpx nx * 36) 0 36)))]) := by
  refine zV_of (by decide) (Nat.le_of_ble_eq_true rfl) ?_
  intro pP eE sS mM aA bB mT cC A ls Z hP hD hS hl
  have hx := Z.1
  have hb := Z.2.1
  have hown := Z.2.2.2.2.2.1
  have hts := Z.2.2.2.2.1
  have Z : zAt pP sS mM aA mT cC D cI cZ A "SurpriseTax$Acts" cX0_takeBack 2 none := Z
  have hl : lv_has ls 2 [(0, .ref x), (1, .ref a)] := hl
  obtain ⟨H, hH⟩ : ∃ H, H = sS.heap := ⟨_, rfl⟩
  have hP : va_P D vwCl [(x, .inr (0, [.ref xs, .int (nI cn), .int (nI nx)])), (xs, .inl (cI, 432, .inl sf)), (a, .inr (6, [.ref b])), (b, .inl (cI, 36, .inl f))] H := by rw [hH]; exact hP
  have hS : va_S A sS.heap H [] := by rw [hH]; exact hS
  rw [← hH]
  clear hH
  obtain ⟨locs, hlo⟩ : ∃ q : List Loc, q = [] := ⟨_, rfl⟩
  rw [← hlo] at hS ⊢
  clear hlo
  refine lv_aload_n hx hb dX0_takeBack_0 rfl (lv_at hl 0 rfl) ?_
  refine z_get (ci := 0) (v := .int (nI cn)) Z zin0 hP 0 rfl rfl 1 (by decide) zm118 rfl rfl dX0_takeBack_1 ?_
  refine lv_if_ne (tgt := 8) hx hb dX0_takeBack_4 (by decide) (fun c_1 => ?_) (fun c_1 => ?_)
  · have c_1 := zne (i := cn) (j := 0) c_1
    refine lv_aload_n hx hb dX0_takeBack_8 rfl (lv_at hl 0 rfl) ?_
    refine lv_aload_n hx hb dX0_takeBack_9 rfl (lv_at hl 0 rfl) ?_
    refine z_get (ci := 0) (v := .int (nI nx)) Z zin0 hP 0 rfl rfl 2 (by decide) zm119 rfl rfl dX0_takeBack_10 ?_
    refine z_cut (fun H locs ls => va_P D vwCl [(x, .inr (0, [.ref xs, .int (nI cn), .int (nI nx)])), (xs, .inl (cI, 432, .inl sf)), (a, .inr (6, [.ref b])), (b, .inl (cI, 36, .inl f))] H ∧ va_D A [(x, .inr (0, [.ref xs, .int (nI cn), .int (nI nx)])), (xs, .inl (cI, 432, .inl sf)), (a, .inr (6, [.ref b])), (b, .inl (cI, 36, .inl f))] ∧ va_S A sS.heap H locs ∧ lv_has ls 2 [(0, .ref x), (1, .ref a)]) 27 [.int (nI (zpx nx)), .ref x] (fun H locs ls hI => ?_) (fun k_2 => ?_)
    · obtain ⟨hP, hD, hS, hl⟩ := hI
      have hpx : zpx nx < 12 := by unfold zpx; split <;> omega
      refine z_put (ci := 0) (v := .int (nI (zpx nx))) Z zin0 tyX0 tyX0_ok nmX0 hP hD hS 0 rfl rfl 2 (by decide) zm119 rfl rfl rfl rfl (Nat.le_of_ble_eq_true rfl) dX0_takeBack_27 (fun H locs hP hD hS => ?_)
      have hP : va_P D vwCl [(x, .inr (0, [.ref xs, .int (nI cn), .int (nI (zpx nx))])), (xs, .inl (cI, 432, .inl sf)), (a, .inr (6, [.ref b])), (b, .inl (cI, 36, .inl f))] H := hP
      have hD : va_D A [(x, .inr (0, [.ref xs, .int (nI cn), .int (nI (zpx nx))])), (xs, .inl (cI, 432, .inl sf)), (a, .inr (6, [.ref b])), (b, .inl (cI, 36, .inl f))] := hD
      refine lv_aload_n hx hb dX0_takeBack_30 rfl (lv_at hl 0 rfl) ?_
      refine lv_dup hx hb dX0_takeBack_31 rfl ?_
      refine z_get (ci := 0) (v := .int (nI cn)) Z zin0 hP 0 rfl rfl 1 (by decide) zm118 rfl rfl dX0_takeBack_32 ?_
      refine lv_iconst (v := nI 1) hx hb dX0_takeBack_35 (by decide) ?_
      refine lv_isub hx hb dX0_takeBack_36 ?_
      refine z_top (y := nI (cn - 1)) (z_sub' (by omega)) ?_
      refine z_put (ci := 0) (v := .int (nI (cn - 1))) Z zin0 tyX0 tyX0_ok nmX0 hP hD hS 0 rfl rfl 1 (by decide) zm118 rfl rfl rfl rfl (Nat.le_of_ble_eq_true rfl) dX0_takeBack_37 (fun H locs hP hD hS => ?_)
      have hP : va_P D vwCl [(x, .inr (0, [.ref xs, .int (nI (cn - 1)), .int (nI (zpx nx))])), (xs, .inl (cI, 432, .inl sf)), (a, .inr (6, [.ref b])), (b, .inl (cI, 36, .inl f))] H := hP
      have hD : va_D A [(x, .inr (0, [.ref xs, .int (nI (cn - 1)), .int (nI (zpx nx))])), (xs, .inl (cI, 432, .inl sf)), (a, .inr (6, [.ref b])), (b, .inl (cI, 36, .inl f))] := hD
      refine lv_aload_n hx hb dX0_takeBack_40 rfl (lv_at hl 1 rfl) ?_
      refine lv_aload_n hx hb dX0_takeBack_41 rfl (lv_at hl 0 rfl) ?_
      refine z_get (ci := 0) (v := .ref xs) Z zin0 hP 0 rfl rfl 0 (by decide) zm117 rfl rfl dX0_takeBack_42 ?_
      refine lv_aload_n hx hb dX0_takeBack_45 rfl (lv_at hl 0 rfl) ?_
      refine z_get (ci := 0) (v := .int (nI (zpx nx))) Z zin0 hP 0 rfl rfl 2 (by decide) zm119 rfl rfl dX0_takeBack_46 ?_
      refine z_callVv (As := [.ref xs, .int (nI (zpx nx))]) (rest := []) (ci := 6) (k0 := 0) Z hP hD hS hl.1 (zc_X6_loadFrom l D cI cZ a b f xs 432 sf (zpx nx) (by omega) (by omega)) zm419 zm420 zm421 zm33 zm422 ⟨rfl, zd_X6_loadFrom⟩ ⟨Nat.le_of_ble_eq_true rfl, Nat.le_of_ble_eq_true rfl⟩ ⟨Nat.zero_le _, Nat.zero_le _⟩ [2, 3, 1] rfl (by decide) rfl rfl rfl (fun _ => rfl) rfl (Nat.le_of_ble_eq_true rfl) rfl dX0_takeBack_49 (fun u H locs h_4 hP hD hS => ?_)
      have hP : va_P D vwCl [(x, .inr (0, [.ref xs, .int (nI (cn - 1)), .int (nI (zpx nx))])), (xs, .inl (cI, 432, .inl sf)), (a, .inr (6, [.ref b])), (b, .inl (cI, 36, .inl (va_cpy sf f ((zpx nx) * 36) 0 36)))] H := hP
      have hD : va_D A [(x, .inr (0, [.ref xs, .int (nI (cn - 1)), .int (nI (zpx nx))])), (xs, .inl (cI, 432, .inl sf)), (a, .inr (6, [.ref b])), (b, .inl (cI, 36, .inl (va_cpy sf f ((zpx nx) * 36) 0 36)))] := hD
      have e_5 : va_cpy sf f ((zpx nx) * 36) 0 36 = va_cpy sf f (zpx nx * 36) 0 36 := by (first | rfl | (simp [c_1]; done) | (simp_all []; done))
      have hP : va_P D vwCl [(x, .inr (0, [.ref xs, .int (nI (cn - 1)), .int (nI (zpx nx))])), (xs, .inl (cI, 432, .inl sf)), (a, .inr (6, [.ref b])), (b, .inl (cI, 36, .inl (va_cpy sf f (zpx nx * 36) 0 36)))] H := Eq.subst (motive := fun zz_ => va_P D vwCl [(x, .inr (0, [.ref xs, .int (nI (cn - 1)), .int (nI (zpx nx))])), (xs, .inl (cI, 432, .inl sf)), (a, .inr (6, [.ref b])), (b, .inl (cI, 36, .inl zz_))] H) e_5 hP
      have hD : va_D A [(x, .inr (0, [.ref xs, .int (nI (cn - 1)), .int (nI (zpx nx))])), (xs, .inl (cI, 432, .inl sf)), (a, .inr (6, [.ref b])), (b, .inl (cI, 36, .inl (va_cpy sf f (zpx nx * 36) 0 36)))] := zD_of hD rfl
      exact z_vret Z () trivial hP hS dX0_takeBack_52
    · skip
      refine lv_if_le (tgt := 25) hx hb dX0_takeBack_13 (by decide) (fun c_6 => ?_) (fun c_6 => ?_)
      · have c_6 := zle (i := nx) (j := 0) (by omega) (by decide) c_6
        refine lv_bipush (v := nI 11) hx hb dX0_takeBack_25 (by decide) ?_
        have hl : lv_has ls 2 [(0, .ref x), (1, .ref a)] := lv_sub hl [0, 1] rfl
        refine z_top (y := nI (zpx nx)) (by first | rfl | (unfold zpx; first | rw [if_pos (by omega)] | rw [if_neg (by omega)])) ?_
        exact k_2 _ _ _ ⟨hP, hD, hS, hl⟩
      · have c_6 := znle (i := nx) (j := 0) (by omega) (by decide) c_6
        refine lv_aload_n hx hb dX0_takeBack_16 rfl (lv_at hl 0 rfl) ?_
        refine z_get (ci := 0) (v := .int (nI nx)) Z zin0 hP 0 rfl rfl 2 (by decide) zm119 rfl rfl dX0_takeBack_17 ?_
        refine lv_iconst (v := nI 1) hx hb dX0_takeBack_20 (by decide) ?_
        refine lv_isub hx hb dX0_takeBack_21 ?_
        refine z_top (y := nI (nx - 1)) (z_sub' (by omega)) ?_
        refine lv_goto (tgt := 27) hx hb dX0_takeBack_22 (by decide) ?_
        have hl : lv_has ls 2 [(0, .ref x), (1, .ref a)] := lv_sub hl [0, 1] rfl
        refine z_top (y := nI (zpx nx)) (by first | rfl | (unfold zpx; first | rw [if_pos (by omega)] | rw [if_neg (by omega)])) ?_
        exact k_2 _ _ _ ⟨hP, hD, hS, hl⟩
  · have c_1 := zeq (i := cn) (j := 0) (by omega) (by decide) c_1
    exact absurd c_1 (by omega)

theorem dX5_clear_0 : decode cX5_clear 0 = .ok (.iconst 0, 1) := by decide +kernel
theorem dX5_clear_1 : decode cX5_clear 1 = .ok (.istore_n 1, 1) := by decide +kernel
theorem dX5_clear_2 : decode cX5_clear 2 = .ok (.iload_n 1, 1) := by decide +kernel
theorem dX5_clear_3 : decode cX5_clear 3 = .ok (.iconst 2, 1) := by decide +kernel
theorem dX5_clear_4 : decode cX5_clear 4 = .ok (.if_icmp .ge 16, 3) := by decide +kernel
theorem dX5_clear_7 : decode cX5_clear 7 = .ok (.aload_n 0, 1) := by decide +kernel
theorem dX5_clear_8 : decode cX5_clear 8 = .ok (.getfield 17, 3) := by decide +kernel
theorem dX5_clear_11 : decode cX5_clear 11 = .ok (.iload_n 1, 1) := by decide +kernel
theorem dX5_clear_12 : decode cX5_clear 12 = .ok (.iconst 0, 1) := by decide +kernel
theorem dX5_clear_13 : decode cX5_clear 13 = .ok (.bastore, 1) := by decide +kernel
theorem dX5_clear_14 : decode cX5_clear 14 = .ok (.iinc 1 1, 3) := by decide +kernel
theorem dX5_clear_17 : decode cX5_clear 17 = .ok (.goto (-15), 3) := by decide +kernel
theorem dX5_clear_20 : decode cX5_clear 20 = .ok (.return_, 1) := by decide +kernel
theorem zd_X5_clear : yX5_clear.cls ≠ "java/lang/invoke/MethodHandle" ∧ yX5_clear.cls ≠ "java/lang/invoke/VarHandle" ∧ (parseMethodDescriptor yX5_clear.desc).map (fun d => d.parameters.length) = some 0 := by decide +kernel
set_option maxHeartbeats 4000000 in
set_option maxRecDepth 100000 in
theorem zc_X5_clear (l : Launch) (D : va_G) (cI cZ : ClassId) (y : Nat) (ys : Nat) (yk : Nat) (kf : Nat → Int32) : zV l yX5_clear cX5_clear 2 0 0 D cI cZ [.ref y] [(y, .inr (5, [.ref ys, .ref yk])), (yk, .inl (cZ, 2, .inl kf))] (fun (u : Unit) => True) (fun (u : Unit) => [(y, .inr (5, [.ref ys, .ref yk])), (yk, .inl (cZ, 2, .inl (zcl kf 2)))]) := by
  refine zV_of (by decide) (Nat.le_of_ble_eq_true rfl) ?_
  intro pP eE sS mM aA bB mT cC A ls Z hP hD hS hl
  have hx := Z.1
  have hb := Z.2.1
  have hown := Z.2.2.2.2.2.1
  have hts := Z.2.2.2.2.1
  have Z : zAt pP sS mM aA mT cC D cI cZ A "SurpriseTax$Slots" cX5_clear 2 none := Z
  have hl : lv_has ls 2 [(0, .ref y)] := hl
  obtain ⟨H, hH⟩ : ∃ H, H = sS.heap := ⟨_, rfl⟩
  have hP : va_P D vwCl [(y, .inr (5, [.ref ys, .ref yk])), (yk, .inl (cZ, 2, .inl kf))] H := by rw [hH]; exact hP
  have hS : va_S A sS.heap H [] := by rw [hH]; exact hS
  rw [← hH]
  clear hH
  obtain ⟨locs, hlo⟩ : ∃ q : List Loc, q = [] := ⟨_, rfl⟩
  rw [← hlo] at hS ⊢
  clear hlo
  refine lv_iconst (v := nI 0) hx hb dX5_clear_0 (by decide) ?_
  refine lv_istore_n (lv' := [(1, .int (nI 0)), (0, .ref y)]) hx hb dX5_clear_1 rfl hl (by decide) rfl (fun ls hl => ?_)
  have e_2 : kf = zcl kf 0 := by first | rfl | exact (zcl_0 kf).symm
  have hP : va_P D vwCl [(y, .inr (5, [.ref ys, .ref yk])), (yk, .inl (cZ, 2, .inl (zcl kf 0)))] H := Eq.subst (motive := fun zz_ => va_P D vwCl [(y, .inr (5, [.ref ys, .ref yk])), (yk, .inl (cZ, 2, .inl zz_))] H) e_2 hP
  have hD : va_D A [(y, .inr (5, [.ref ys, .ref yk])), (yk, .inl (cZ, 2, .inl (zcl kf 0)))] := zD_of hD rfl
  have hl : lv_has ls 2 [(1, .int (nI 0)), (0, .ref y)] := lv_sub hl [0, 1] rfl
  refine z_loop (fun i H locs ls => va_P D vwCl [(y, .inr (5, [.ref ys, .ref yk])), (yk, .inl (cZ, 2, .inl (zcl kf i)))] H ∧ va_D A [(y, .inr (5, [.ref ys, .ref yk])), (yk, .inl (cZ, 2, .inl (zcl kf i)))] ∧ va_S A sS.heap H locs ∧ lv_has ls 2 [(1, .int (nI i)), (0, .ref y)]) (2) (lo := 0) (by omega) ⟨hP, hD, hS, hl⟩ (fun i hi_i ih_1 H locs ls hI => ?_)
  obtain ⟨hP, hD, hS, hl⟩ := hI
  have hP : va_P D vwCl [(y, .inr (5, [.ref ys, .ref yk])), (yk, .inl (cZ, 2, .inl (zcl kf i)))] H := hP
  have hD : va_D A [(y, .inr (5, [.ref ys, .ref yk])), (yk, .inl (cZ, 2, .inl (zcl kf i)))] := hD
  have hl : lv_has ls 2 [(1, .int (nI i)), (0, .ref y)] := hl
  refine lv_iload_n hx hb dX5_clear_2 rfl (lv_at hl 0 rfl) ?_
  refine lv_iconst (v := nI 2) hx hb dX5_clear_3 (by decide) ?_
  refine lv_icmp_ge (tgt := 20) hx hb dX5_clear_4 (by decide) (fun c_3 => ?_) (fun c_3 => ?_)
  · have c_3 := zle (i := 2) (j := i) (by decide) (by omega) c_3
    have hE_ : 2 = i := by omega
    subst hE_
    exact z_vret Z () trivial hP hS dX5_clear_20
  · have c_3 := znle (i := 2) (j := i) (by decide) (by omega) c_3
    refine lv_aload_n hx hb dX5_clear_7 rfl (lv_at hl 1 rfl) ?_
    refine z_get (ci := 5) (v := .ref yk) Z zin5 hP 0 rfl rfl 1 (by decide) zm129 rfl rfl dX5_clear_8 ?_
    refine lv_iload_n hx hb dX5_clear_11 rfl (lv_at hl 0 rfl) ?_
    refine lv_iconst (v := nI 0) hx hb dX5_clear_12 (by decide) ?_
    refine z_zast (n := 2) (f := zcl kf i) (j := i) (x := nI 0) Z hP hD hS 1 rfl (by first | exact zb01 | decide) (by omega) (by decide) dX5_clear_13 (fun H locs hP hD hS => ?_)
    have hP : va_P D vwCl [(y, .inr (5, [.ref ys, .ref yk])), (yk, .inl (cZ, 2, .inl (upd (zcl kf i) i 0)))] H := hP
    have hD : va_D A [(y, .inr (5, [.ref ys, .ref yk])), (yk, .inl (cZ, 2, .inl (upd (zcl kf i) i 0)))] := hD
    refine lv_iinc (v := nI (i + 1)) (lv' := [(1, .int (nI (i + 1))), (0, .ref y)]) hx hb dX5_clear_14 hl (k := 0) rfl (z_inc _ 1) (by decide) rfl (fun ls hl => ?_)
    refine lv_goto (tgt := 2) hx hb dX5_clear_17 (by decide) ?_
    have e_4 : upd (zcl kf i) i 0 = zcl kf (i + 1) := by first | rfl | exact zcl_s kf i
    have hP : va_P D vwCl [(y, .inr (5, [.ref ys, .ref yk])), (yk, .inl (cZ, 2, .inl (zcl kf (i + 1))))] H := Eq.subst (motive := fun zz_ => va_P D vwCl [(y, .inr (5, [.ref ys, .ref yk])), (yk, .inl (cZ, 2, .inl zz_))] H) e_4 hP
    have hD : va_D A [(y, .inr (5, [.ref ys, .ref yk])), (yk, .inl (cZ, 2, .inl (zcl kf (i + 1))))] := zD_of hD rfl
    have hl : lv_has ls 2 [(1, .int (nI (i + 1))), (0, .ref y)] := lv_sub hl [0, 1] rfl
    exact ih_1 _ _ _ (by omega) ⟨hP, hD, hS, hl⟩

theorem dX5_isKept_0 : decode cX5_isKept 0 = .ok (.aload_n 0, 1) := by decide +kernel
theorem dX5_isKept_1 : decode cX5_isKept 1 = .ok (.getfield 17, 3) := by decide +kernel
theorem dX5_isKept_4 : decode cX5_isKept 4 = .ok (.iload_n 1, 1) := by decide +kernel
theorem dX5_isKept_5 : decode cX5_isKept 5 = .ok (.baload, 1) := by decide +kernel
theorem dX5_isKept_6 : decode cX5_isKept 6 = .ok (.ireturn, 1) := by decide +kernel
theorem zd_X5_isKept : yX5_isKept.cls ≠ "java/lang/invoke/MethodHandle" ∧ yX5_isKept.cls ≠ "java/lang/invoke/VarHandle" ∧ (parseMethodDescriptor yX5_isKept.desc).map (fun d => d.parameters.length) = some 1 := by decide +kernel
set_option maxHeartbeats 4000000 in
set_option maxRecDepth 100000 in
theorem zc_X5_isKept (l : Launch) (D : va_G) (cI cZ : ClassId) (y : Nat) (ys : Nat) (yk : Nat) (kf : Nat → Int32) (k : Nat) (hk : k < 2) (hkf : kf k = 0 ∨ kf k = 1) : zI l yX5_isKept cX5_isKept 2 .boolean 0 0 D cI cZ [.ref y, .int (nI k)] [(y, .inr (5, [.ref ys, .ref yk])), (yk, .inl (cZ, 2, .inl kf))] (fun (r : Int32) (u : Unit) => r = kf k) (fun (u : Unit) => [(y, .inr (5, [.ref ys, .ref yk])), (yk, .inl (cZ, 2, .inl kf))]) := by
  refine zI_of (by decide) (Nat.le_of_ble_eq_true rfl) ?_
  intro pP eE sS mM aA bB mT cC A ls Z hP hD hS hl
  have hx := Z.1
  have hb := Z.2.1
  have hown := Z.2.2.2.2.2.1
  have hts := Z.2.2.2.2.1
  have Z : zAt pP sS mM aA mT cC D cI cZ A "SurpriseTax$Slots" cX5_isKept 2 (some .boolean) := Z
  have hl : lv_has ls 2 [(0, .ref y), (1, .int (nI k))] := hl
  obtain ⟨H, hH⟩ : ∃ H, H = sS.heap := ⟨_, rfl⟩
  have hP : va_P D vwCl [(y, .inr (5, [.ref ys, .ref yk])), (yk, .inl (cZ, 2, .inl kf))] H := by rw [hH]; exact hP
  have hS : va_S A sS.heap H [] := by rw [hH]; exact hS
  rw [← hH]
  clear hH
  obtain ⟨locs, hlo⟩ : ∃ q : List Loc, q = [] := ⟨_, rfl⟩
  rw [← hlo] at hS ⊢
  clear hlo
  refine lv_aload_n hx hb dX5_isKept_0 rfl (lv_at hl 0 rfl) ?_
  refine z_get (ci := 5) (v := .ref yk) Z zin5 hP 0 rfl rfl 1 (by decide) zm129 rfl rfl dX5_isKept_1 ?_
  refine lv_iload_n hx hb dX5_isKept_4 rfl (lv_at hl 1 rfl) ?_
  refine z_zald (n := 2) (f := kf) (j := k) Z hP 1 rfl (by omega) (by decide) dX5_isKept_5 ?_
  exact z_zret Z () (by assumption) rfl hP hS dX5_isKept_6

theorem dX5_put_0 : decode cX5_put 0 = .ok (.aload_n 2, 1) := by decide +kernel
theorem dX5_put_1 : decode cX5_put 1 = .ok (.aload_n 0, 1) := by decide +kernel
theorem dX5_put_2 : decode cX5_put 2 = .ok (.getfield 11, 3) := by decide +kernel
theorem dX5_put_5 : decode cX5_put 5 = .ok (.iload_n 1, 1) := by decide +kernel
theorem dX5_put_6 : decode cX5_put 6 = .ok (.invokevirtual 21, 3) := by decide +kernel
theorem dX5_put_9 : decode cX5_put 9 = .ok (.aload_n 0, 1) := by decide +kernel
theorem dX5_put_10 : decode cX5_put 10 = .ok (.getfield 17, 3) := by decide +kernel
theorem dX5_put_13 : decode cX5_put 13 = .ok (.iload_n 1, 1) := by decide +kernel
theorem dX5_put_14 : decode cX5_put 14 = .ok (.iconst 1, 1) := by decide +kernel
theorem dX5_put_15 : decode cX5_put 15 = .ok (.bastore, 1) := by decide +kernel
theorem dX5_put_16 : decode cX5_put 16 = .ok (.return_, 1) := by decide +kernel
theorem zd_X5_put : yX5_put.cls ≠ "java/lang/invoke/MethodHandle" ∧ yX5_put.cls ≠ "java/lang/invoke/VarHandle" ∧ (parseMethodDescriptor yX5_put.desc).map (fun d => d.parameters.length) = some 2 := by decide +kernel
set_option maxHeartbeats 4000000 in
set_option maxRecDepth 100000 in
theorem zc_X5_put (l : Launch) (D : va_G) (cI cZ : ClassId) (y : Nat) (ys : Nat) (yk : Nat) (yf : Nat → Int32) (kf : Nat → Int32) (a : Nat) (b : Nat) (f : Nat → Int32) (k : Nat) (hk : k < 2) : zV l yX5_put cX5_put 3 2 40 D cI cZ [.ref y, .int (nI k), .ref a] [(y, .inr (5, [.ref ys, .ref yk])), (ys, .inl (cI, 72, .inl yf)), (yk, .inl (cZ, 2, .inl kf)), (a, .inr (6, [.ref b])), (b, .inl (cI, 36, .inl f))] (fun (u : Unit) => True) (fun (u : Unit) => [(y, .inr (5, [.ref ys, .ref yk])), (ys, .inl (cI, 72, .inl (va_cpy f yf 0 (k * 36) 36))), (yk, .inl (cZ, 2, .inl (upd kf k 1))), (a, .inr (6, [.ref b])), (b, .inl (cI, 36, .inl f))]) := by
  refine zV_of (by decide) (Nat.le_of_ble_eq_true rfl) ?_
  intro pP eE sS mM aA bB mT cC A ls Z hP hD hS hl
  have hx := Z.1
  have hb := Z.2.1
  have hown := Z.2.2.2.2.2.1
  have hts := Z.2.2.2.2.1
  have Z : zAt pP sS mM aA mT cC D cI cZ A "SurpriseTax$Slots" cX5_put 3 none := Z
  have hl : lv_has ls 3 [(0, .ref y), (1, .int (nI k)), (2, .ref a)] := hl
  obtain ⟨H, hH⟩ : ∃ H, H = sS.heap := ⟨_, rfl⟩
  have hP : va_P D vwCl [(y, .inr (5, [.ref ys, .ref yk])), (ys, .inl (cI, 72, .inl yf)), (yk, .inl (cZ, 2, .inl kf)), (a, .inr (6, [.ref b])), (b, .inl (cI, 36, .inl f))] H := by rw [hH]; exact hP
  have hS : va_S A sS.heap H [] := by rw [hH]; exact hS
  rw [← hH]
  clear hH
  obtain ⟨locs, hlo⟩ : ∃ q : List Loc, q = [] := ⟨_, rfl⟩
  rw [← hlo] at hS ⊢
  clear hlo
  refine lv_aload_n hx hb dX5_put_0 rfl (lv_at hl 2 rfl) ?_
  refine lv_aload_n hx hb dX5_put_1 rfl (lv_at hl 0 rfl) ?_
  refine z_get (ci := 5) (v := .ref ys) Z zin5 hP 0 rfl rfl 0 (by decide) zm128 rfl rfl dX5_put_2 ?_
  refine lv_iload_n hx hb dX5_put_5 rfl (lv_at hl 1 rfl) ?_
  refine z_callVv (As := [.ref ys, .int (nI k)]) (rest := []) (ci := 6) (k0 := 0) Z hP hD hS hl.1 (zc_X6_saveTo l D cI cZ a b f ys 72 yf k (by omega) (by omega)) zm657 zm356 zm357 zm33 zm358 ⟨rfl, zd_X6_saveTo⟩ ⟨Nat.le_of_ble_eq_true rfl, Nat.le_of_ble_eq_true rfl⟩ ⟨Nat.zero_le _, Nat.zero_le _⟩ [3, 4, 1] rfl (by decide) rfl rfl rfl (fun _ => rfl) rfl (Nat.le_of_ble_eq_true rfl) rfl dX5_put_6 (fun u H locs h_2 hP hD hS => ?_)
  have hP : va_P D vwCl [(y, .inr (5, [.ref ys, .ref yk])), (ys, .inl (cI, 72, .inl (va_cpy f yf 0 (k * 36) 36))), (yk, .inl (cZ, 2, .inl kf)), (a, .inr (6, [.ref b])), (b, .inl (cI, 36, .inl f))] H := hP
  have hD : va_D A [(y, .inr (5, [.ref ys, .ref yk])), (ys, .inl (cI, 72, .inl (va_cpy f yf 0 (k * 36) 36))), (yk, .inl (cZ, 2, .inl kf)), (a, .inr (6, [.ref b])), (b, .inl (cI, 36, .inl f))] := hD
  refine lv_aload_n hx hb dX5_put_9 rfl (lv_at hl 0 rfl) ?_
  refine z_get (ci := 5) (v := .ref yk) Z zin5 hP 0 rfl rfl 1 (by decide) zm129 rfl rfl dX5_put_10 ?_
  refine lv_iload_n hx hb dX5_put_13 rfl (lv_at hl 1 rfl) ?_
  refine lv_iconst (v := nI 1) hx hb dX5_put_14 (by decide) ?_
  refine z_zast (n := 2) (f := kf) (j := k) (x := nI 1) Z hP hD hS 2 rfl (by first | exact zb01 | decide) (by omega) (by decide) dX5_put_15 (fun H locs hP hD hS => ?_)
  have hP : va_P D vwCl [(y, .inr (5, [.ref ys, .ref yk])), (ys, .inl (cI, 72, .inl (va_cpy f yf 0 (k * 36) 36))), (yk, .inl (cZ, 2, .inl (upd kf k 1))), (a, .inr (6, [.ref b])), (b, .inl (cI, 36, .inl f))] H := hP
  have hD : va_D A [(y, .inr (5, [.ref ys, .ref yk])), (ys, .inl (cI, 72, .inl (va_cpy f yf 0 (k * 36) 36))), (yk, .inl (cZ, 2, .inl (upd kf k 1))), (a, .inr (6, [.ref b])), (b, .inl (cI, 36, .inl f))] := hD
  exact z_vret Z () trivial hP hS dX5_put_16

theorem dX5_giveBack_0 : decode cX5_giveBack 0 = .ok (.aload_n 2, 1) := by decide +kernel
theorem dX5_giveBack_1 : decode cX5_giveBack 1 = .ok (.aload_n 0, 1) := by decide +kernel
theorem dX5_giveBack_2 : decode cX5_giveBack 2 = .ok (.getfield 11, 3) := by decide +kernel
theorem dX5_giveBack_5 : decode cX5_giveBack 5 = .ok (.iload_n 1, 1) := by decide +kernel
theorem dX5_giveBack_6 : decode cX5_giveBack 6 = .ok (.invokevirtual 25, 3) := by decide +kernel
theorem dX5_giveBack_9 : decode cX5_giveBack 9 = .ok (.return_, 1) := by decide +kernel
theorem zd_X5_giveBack : yX5_giveBack.cls ≠ "java/lang/invoke/MethodHandle" ∧ yX5_giveBack.cls ≠ "java/lang/invoke/VarHandle" ∧ (parseMethodDescriptor yX5_giveBack.desc).map (fun d => d.parameters.length) = some 2 := by decide +kernel
set_option maxHeartbeats 4000000 in
set_option maxRecDepth 100000 in
theorem zc_X5_giveBack (l : Launch) (D : va_G) (cI cZ : ClassId) (y : Nat) (ys : Nat) (yk : Nat) (yf : Nat → Int32) (a : Nat) (b : Nat) (f : Nat → Int32) (k : Nat) (hk : k < 2) : zV l yX5_giveBack cX5_giveBack 3 2 40 D cI cZ [.ref y, .int (nI k), .ref a] [(y, .inr (5, [.ref ys, .ref yk])), (ys, .inl (cI, 72, .inl yf)), (a, .inr (6, [.ref b])), (b, .inl (cI, 36, .inl f))] (fun (u : Unit) => True) (fun (u : Unit) => [(y, .inr (5, [.ref ys, .ref yk])), (ys, .inl (cI, 72, .inl yf)), (a, .inr (6, [.ref b])), (b, .inl (cI, 36, .inl (va_cpy yf f (k * 36) 0 36)))]) := by
  refine zV_of (by decide) (Nat.le_of_ble_eq_true rfl) ?_
  intro pP eE sS mM aA bB mT cC A ls Z hP hD hS hl
  have hx := Z.1
  have hb := Z.2.1
  have hown := Z.2.2.2.2.2.1
  have hts := Z.2.2.2.2.1
  have Z : zAt pP sS mM aA mT cC D cI cZ A "SurpriseTax$Slots" cX5_giveBack 3 none := Z
  have hl : lv_has ls 3 [(0, .ref y), (1, .int (nI k)), (2, .ref a)] := hl
  obtain ⟨H, hH⟩ : ∃ H, H = sS.heap := ⟨_, rfl⟩
  have hP : va_P D vwCl [(y, .inr (5, [.ref ys, .ref yk])), (ys, .inl (cI, 72, .inl yf)), (a, .inr (6, [.ref b])), (b, .inl (cI, 36, .inl f))] H := by rw [hH]; exact hP
  have hS : va_S A sS.heap H [] := by rw [hH]; exact hS
  rw [← hH]
  clear hH
  obtain ⟨locs, hlo⟩ : ∃ q : List Loc, q = [] := ⟨_, rfl⟩
  rw [← hlo] at hS ⊢
  clear hlo
  refine lv_aload_n hx hb dX5_giveBack_0 rfl (lv_at hl 2 rfl) ?_
  refine lv_aload_n hx hb dX5_giveBack_1 rfl (lv_at hl 0 rfl) ?_
  refine z_get (ci := 5) (v := .ref ys) Z zin5 hP 0 rfl rfl 0 (by decide) zm128 rfl rfl dX5_giveBack_2 ?_
  refine lv_iload_n hx hb dX5_giveBack_5 rfl (lv_at hl 1 rfl) ?_
  refine z_callVv (As := [.ref ys, .int (nI k)]) (rest := []) (ci := 6) (k0 := 0) Z hP hD hS hl.1 (zc_X6_loadFrom l D cI cZ a b f ys 72 yf k (by omega) (by omega)) zm670 zm420 zm421 zm33 zm422 ⟨rfl, zd_X6_loadFrom⟩ ⟨Nat.le_of_ble_eq_true rfl, Nat.le_of_ble_eq_true rfl⟩ ⟨Nat.zero_le _, Nat.zero_le _⟩ [2, 3, 1] rfl (by decide) rfl rfl rfl (fun _ => rfl) rfl (Nat.le_of_ble_eq_true rfl) rfl dX5_giveBack_6 (fun u H locs h_2 hP hD hS => ?_)
  have hP : va_P D vwCl [(y, .inr (5, [.ref ys, .ref yk])), (ys, .inl (cI, 72, .inl yf)), (a, .inr (6, [.ref b])), (b, .inl (cI, 36, .inl (va_cpy yf f (k * 36) 0 36)))] H := hP
  have hD : va_D A [(y, .inr (5, [.ref ys, .ref yk])), (ys, .inl (cI, 72, .inl yf)), (a, .inr (6, [.ref b])), (b, .inl (cI, 36, .inl (va_cpy yf f (k * 36) 0 36)))] := hD
  exact z_vret Z () trivial hP hS dX5_giveBack_9

theorem dX4_count_0 : decode cX4_count 0 = .ok (.aload_n 0, 1) := by decide +kernel
theorem dX4_count_1 : decode cX4_count 1 = .ok (.getfield 18, 3) := by decide +kernel
theorem dX4_count_4 : decode cX4_count 4 = .ok (.ireturn, 1) := by decide +kernel
theorem zd_X4_count : yX4_count.cls ≠ "java/lang/invoke/MethodHandle" ∧ yX4_count.cls ≠ "java/lang/invoke/VarHandle" ∧ (parseMethodDescriptor yX4_count.desc).map (fun d => d.parameters.length) = some 0 := by decide +kernel
set_option maxHeartbeats 4000000 in
set_option maxRecDepth 100000 in
theorem zc_X4_count (l : Launch) (D : va_G) (cI cZ : ClassId) (z : Nat) (zp : Nat) (zd : Nat) (cr : Nat) (ft : Int32) (kd : Int32) (su : Int32) : zI l yX4_count cX4_count 1 .int 0 0 D cI cZ [.ref z] [(z, .inr (4, [.ref zp, .ref zd, .int (nI cr), .int ft, .int kd, .int su]))] (fun (r : Int32) (u : Unit) => r = nI cr) (fun (u : Unit) => [(z, .inr (4, [.ref zp, .ref zd, .int (nI cr), .int ft, .int kd, .int su]))]) := by
  refine zI_of (by decide) (Nat.le_of_ble_eq_true rfl) ?_
  intro pP eE sS mM aA bB mT cC A ls Z hP hD hS hl
  have hx := Z.1
  have hb := Z.2.1
  have hown := Z.2.2.2.2.2.1
  have hts := Z.2.2.2.2.1
  have Z : zAt pP sS mM aA mT cC D cI cZ A "SurpriseTax$Rolls" cX4_count 1 (some .int) := Z
  have hl : lv_has ls 1 [(0, .ref z)] := hl
  obtain ⟨H, hH⟩ : ∃ H, H = sS.heap := ⟨_, rfl⟩
  have hP : va_P D vwCl [(z, .inr (4, [.ref zp, .ref zd, .int (nI cr), .int ft, .int kd, .int su]))] H := by rw [hH]; exact hP
  have hS : va_S A sS.heap H [] := by rw [hH]; exact hS
  rw [← hH]
  clear hH
  obtain ⟨locs, hlo⟩ : ∃ q : List Loc, q = [] := ⟨_, rfl⟩
  rw [← hlo] at hS ⊢
  clear hlo
  refine lv_aload_n hx hb dX4_count_0 rfl (lv_at hl 0 rfl) ?_
  refine z_get (ci := 4) (v := .int (nI cr)) Z zin4 hP 0 rfl rfl 2 (by decide) zm140 rfl rfl dX4_count_1 ?_
  exact z_iret Z () rfl hP hS dX4_count_4

theorem dX4_clear_0 : decode cX4_clear 0 = .ok (.aload_n 0, 1) := by decide +kernel
theorem dX4_clear_1 : decode cX4_clear 1 = .ok (.iconst 0, 1) := by decide +kernel
theorem dX4_clear_2 : decode cX4_clear 2 = .ok (.putfield 18, 3) := by decide +kernel
theorem dX4_clear_5 : decode cX4_clear 5 = .ok (.return_, 1) := by decide +kernel
theorem zd_X4_clear : yX4_clear.cls ≠ "java/lang/invoke/MethodHandle" ∧ yX4_clear.cls ≠ "java/lang/invoke/VarHandle" ∧ (parseMethodDescriptor yX4_clear.desc).map (fun d => d.parameters.length) = some 0 := by decide +kernel
set_option maxHeartbeats 4000000 in
set_option maxRecDepth 100000 in
theorem zc_X4_clear (l : Launch) (D : va_G) (cI cZ : ClassId) (z : Nat) (zp : Nat) (zd : Nat) (cr : Nat) (ft : Int32) (kd : Int32) (su : Int32) : zV l yX4_clear cX4_clear 1 0 0 D cI cZ [.ref z] [(z, .inr (4, [.ref zp, .ref zd, .int (nI cr), .int ft, .int kd, .int su]))] (fun (u : Unit) => True) (fun (u : Unit) => [(z, .inr (4, [.ref zp, .ref zd, .int (nI 0), .int ft, .int kd, .int su]))]) := by
  refine zV_of (by decide) (Nat.le_of_ble_eq_true rfl) ?_
  intro pP eE sS mM aA bB mT cC A ls Z hP hD hS hl
  have hx := Z.1
  have hb := Z.2.1
  have hown := Z.2.2.2.2.2.1
  have hts := Z.2.2.2.2.1
  have Z : zAt pP sS mM aA mT cC D cI cZ A "SurpriseTax$Rolls" cX4_clear 1 none := Z
  have hl : lv_has ls 1 [(0, .ref z)] := hl
  obtain ⟨H, hH⟩ : ∃ H, H = sS.heap := ⟨_, rfl⟩
  have hP : va_P D vwCl [(z, .inr (4, [.ref zp, .ref zd, .int (nI cr), .int ft, .int kd, .int su]))] H := by rw [hH]; exact hP
  have hS : va_S A sS.heap H [] := by rw [hH]; exact hS
  rw [← hH]
  clear hH
  obtain ⟨locs, hlo⟩ : ∃ q : List Loc, q = [] := ⟨_, rfl⟩
  rw [← hlo] at hS ⊢
  clear hlo
  refine lv_aload_n hx hb dX4_clear_0 rfl (lv_at hl 0 rfl) ?_
  refine lv_iconst (v := nI 0) hx hb dX4_clear_1 (by decide) ?_
  refine z_put (ci := 4) (v := .int (nI 0)) Z zin4 tyX4 tyX4_ok nmX4 hP hD hS 0 rfl rfl 2 (by decide) zm140 rfl rfl rfl rfl (Nat.le_of_ble_eq_true rfl) dX4_clear_2 (fun H locs hP hD hS => ?_)
  have hP : va_P D vwCl [(z, .inr (4, [.ref zp, .ref zd, .int (nI 0), .int ft, .int kd, .int su]))] H := hP
  have hD : va_D A [(z, .inr (4, [.ref zp, .ref zd, .int (nI 0), .int ft, .int kd, .int su]))] := hD
  exact z_vret Z () trivial hP hS dX4_clear_5

theorem dX4_add_0 : decode cX4_add 0 = .ok (.aload_n 0, 1) := by decide +kernel
theorem dX4_add_1 : decode cX4_add 1 = .ok (.getfield 18, 3) := by decide +kernel
theorem dX4_add_4 : decode cX4_add 4 = .ok (.bipush 6, 2) := by decide +kernel
theorem dX4_add_6 : decode cX4_add 6 = .ok (.if_icmp .lt 4, 3) := by decide +kernel
theorem dX4_add_10 : decode cX4_add 10 = .ok (.aload_n 0, 1) := by decide +kernel
theorem dX4_add_11 : decode cX4_add 11 = .ok (.getfield 9, 3) := by decide +kernel
theorem dX4_add_14 : decode cX4_add 14 = .ok (.aload_n 0, 1) := by decide +kernel
theorem dX4_add_15 : decode cX4_add 15 = .ok (.getfield 18, 3) := by decide +kernel
theorem dX4_add_18 : decode cX4_add 18 = .ok (.iload_n 1, 1) := by decide +kernel
theorem dX4_add_19 : decode cX4_add 19 = .ok (.iastore, 1) := by decide +kernel
theorem dX4_add_20 : decode cX4_add 20 = .ok (.aload_n 0, 1) := by decide +kernel
theorem dX4_add_21 : decode cX4_add 21 = .ok (.getfield 15, 3) := by decide +kernel
theorem dX4_add_24 : decode cX4_add 24 = .ok (.aload_n 0, 1) := by decide +kernel
theorem dX4_add_25 : decode cX4_add 25 = .ok (.getfield 18, 3) := by decide +kernel
theorem dX4_add_28 : decode cX4_add 28 = .ok (.iload_n 2, 1) := by decide +kernel
theorem dX4_add_29 : decode cX4_add 29 = .ok (.iastore, 1) := by decide +kernel
theorem dX4_add_30 : decode cX4_add 30 = .ok (.aload_n 0, 1) := by decide +kernel
theorem dX4_add_31 : decode cX4_add 31 = .ok (.dup, 1) := by decide +kernel
theorem dX4_add_32 : decode cX4_add 32 = .ok (.getfield 18, 3) := by decide +kernel
theorem dX4_add_35 : decode cX4_add 35 = .ok (.iconst 1, 1) := by decide +kernel
theorem dX4_add_36 : decode cX4_add 36 = .ok (.iadd, 1) := by decide +kernel
theorem dX4_add_37 : decode cX4_add 37 = .ok (.putfield 18, 3) := by decide +kernel
theorem dX4_add_40 : decode cX4_add 40 = .ok (.return_, 1) := by decide +kernel
theorem zd_X4_add : yX4_add.cls ≠ "java/lang/invoke/MethodHandle" ∧ yX4_add.cls ≠ "java/lang/invoke/VarHandle" ∧ (parseMethodDescriptor yX4_add.desc).map (fun d => d.parameters.length) = some 2 := by decide +kernel
set_option maxHeartbeats 4000000 in
set_option maxRecDepth 100000 in
theorem zc_X4_add (l : Launch) (D : va_G) (cI cZ : ClassId) (z : Nat) (zp : Nat) (zd : Nat) (cr : Nat) (ft : Int32) (kd : Int32) (su : Int32) (pw : Nat → Int32) (pd : Nat → Int32) (x : Int32) (t : Int32) (hcr : cr < 6) : zV l yX4_add cX4_add 3 0 0 D cI cZ [.ref z, .int x, .int t] [(z, .inr (4, [.ref zp, .ref zd, .int (nI cr), .int ft, .int kd, .int su])), (zp, .inl (cI, 6, .inl pw)), (zd, .inl (cI, 6, .inl pd))] (fun (u : Unit) => True) (fun (u : Unit) => [(z, .inr (4, [.ref zp, .ref zd, .int (nI (cr + 1)), .int ft, .int kd, .int su])), (zp, .inl (cI, 6, .inl (upd pw cr x))), (zd, .inl (cI, 6, .inl (upd pd cr t)))]) := by
  refine zV_of (by decide) (Nat.le_of_ble_eq_true rfl) ?_
  intro pP eE sS mM aA bB mT cC A ls Z hP hD hS hl
  have hx := Z.1
  have hb := Z.2.1
  have hown := Z.2.2.2.2.2.1
  have hts := Z.2.2.2.2.1
  have Z : zAt pP sS mM aA mT cC D cI cZ A "SurpriseTax$Rolls" cX4_add 3 none := Z
  have hl : lv_has ls 3 [(0, .ref z), (1, .int x), (2, .int t)] := hl
  obtain ⟨H, hH⟩ : ∃ H, H = sS.heap := ⟨_, rfl⟩
  have hP : va_P D vwCl [(z, .inr (4, [.ref zp, .ref zd, .int (nI cr), .int ft, .int kd, .int su])), (zp, .inl (cI, 6, .inl pw)), (zd, .inl (cI, 6, .inl pd))] H := by rw [hH]; exact hP
  have hS : va_S A sS.heap H [] := by rw [hH]; exact hS
  rw [← hH]
  clear hH
  obtain ⟨locs, hlo⟩ : ∃ q : List Loc, q = [] := ⟨_, rfl⟩
  rw [← hlo] at hS ⊢
  clear hlo
  refine lv_aload_n hx hb dX4_add_0 rfl (lv_at hl 0 rfl) ?_
  refine z_get (ci := 4) (v := .int (nI cr)) Z zin4 hP 0 rfl rfl 2 (by decide) zm140 rfl rfl dX4_add_1 ?_
  refine lv_bipush (v := nI 6) hx hb dX4_add_4 (by decide) ?_
  refine lv_icmp_lt (tgt := 10) hx hb dX4_add_6 (by decide) (fun c_1 => ?_) (fun c_1 => ?_)
  · have c_1 := zlt (i := cr) (j := 6) (by omega) (by decide) c_1
    refine lv_aload_n hx hb dX4_add_10 rfl (lv_at hl 0 rfl) ?_
    refine z_get (ci := 4) (v := .ref zp) Z zin4 hP 0 rfl rfl 0 (by decide) zm138 rfl rfl dX4_add_11 ?_
    refine lv_aload_n hx hb dX4_add_14 rfl (lv_at hl 0 rfl) ?_
    refine z_get (ci := 4) (v := .int (nI cr)) Z zin4 hP 0 rfl rfl 2 (by decide) zm140 rfl rfl dX4_add_15 ?_
    refine lv_iload_n hx hb dX4_add_18 rfl (lv_at hl 1 rfl) ?_
    refine z_iast (n := 6) (f := pw) (j := cr) (x := x) Z hP hD hS 1 rfl (by omega) (by decide) dX4_add_19 (fun H locs hP hD hS => ?_)
    have hP : va_P D vwCl [(z, .inr (4, [.ref zp, .ref zd, .int (nI cr), .int ft, .int kd, .int su])), (zp, .inl (cI, 6, .inl (upd pw cr x))), (zd, .inl (cI, 6, .inl pd))] H := hP
    have hD : va_D A [(z, .inr (4, [.ref zp, .ref zd, .int (nI cr), .int ft, .int kd, .int su])), (zp, .inl (cI, 6, .inl (upd pw cr x))), (zd, .inl (cI, 6, .inl pd))] := hD
    refine lv_aload_n hx hb dX4_add_20 rfl (lv_at hl 0 rfl) ?_
    refine z_get (ci := 4) (v := .ref zd) Z zin4 hP 0 rfl rfl 1 (by decide) zm139 rfl rfl dX4_add_21 ?_
    refine lv_aload_n hx hb dX4_add_24 rfl (lv_at hl 0 rfl) ?_
    refine z_get (ci := 4) (v := .int (nI cr)) Z zin4 hP 0 rfl rfl 2 (by decide) zm140 rfl rfl dX4_add_25 ?_
    refine lv_iload_n hx hb dX4_add_28 rfl (lv_at hl 2 rfl) ?_
    refine z_iast (n := 6) (f := pd) (j := cr) (x := t) Z hP hD hS 2 rfl (by omega) (by decide) dX4_add_29 (fun H locs hP hD hS => ?_)
    have hP : va_P D vwCl [(z, .inr (4, [.ref zp, .ref zd, .int (nI cr), .int ft, .int kd, .int su])), (zp, .inl (cI, 6, .inl (upd pw cr x))), (zd, .inl (cI, 6, .inl (upd pd cr t)))] H := hP
    have hD : va_D A [(z, .inr (4, [.ref zp, .ref zd, .int (nI cr), .int ft, .int kd, .int su])), (zp, .inl (cI, 6, .inl (upd pw cr x))), (zd, .inl (cI, 6, .inl (upd pd cr t)))] := hD
    refine lv_aload_n hx hb dX4_add_30 rfl (lv_at hl 0 rfl) ?_
    refine lv_dup hx hb dX4_add_31 rfl ?_
    refine z_get (ci := 4) (v := .int (nI cr)) Z zin4 hP 0 rfl rfl 2 (by decide) zm140 rfl rfl dX4_add_32 ?_
    refine lv_iconst (v := nI 1) hx hb dX4_add_35 (by decide) ?_
    refine lv_iadd hx hb dX4_add_36 ?_
    refine z_top (y := nI (cr + 1)) (z_add _ _) ?_
    refine z_put (ci := 4) (v := .int (nI (cr + 1))) Z zin4 tyX4 tyX4_ok nmX4 hP hD hS 0 rfl rfl 2 (by decide) zm140 rfl rfl rfl rfl (Nat.le_of_ble_eq_true rfl) dX4_add_37 (fun H locs hP hD hS => ?_)
    have hP : va_P D vwCl [(z, .inr (4, [.ref zp, .ref zd, .int (nI (cr + 1)), .int ft, .int kd, .int su])), (zp, .inl (cI, 6, .inl (upd pw cr x))), (zd, .inl (cI, 6, .inl (upd pd cr t)))] H := hP
    have hD : va_D A [(z, .inr (4, [.ref zp, .ref zd, .int (nI (cr + 1)), .int ft, .int kd, .int su])), (zp, .inl (cI, 6, .inl (upd pw cr x))), (zd, .inl (cI, 6, .inl (upd pd cr t)))] := hD
    exact z_vret Z () trivial hP hS dX4_add_40
  · have c_1 := znlt (i := cr) (j := 6) (by omega) (by decide) c_1
    exact absurd c_1 (by omega)

theorem dX4_fitting_0 : decode cX4_fitting 0 = .ok (.aload_n 0, 1) := by decide +kernel
theorem dX4_fitting_1 : decode cX4_fitting 1 = .ok (.getfield 22, 3) := by decide +kernel
theorem dX4_fitting_4 : decode cX4_fitting 4 = .ok (.ireturn, 1) := by decide +kernel
theorem zd_X4_fitting : yX4_fitting.cls ≠ "java/lang/invoke/MethodHandle" ∧ yX4_fitting.cls ≠ "java/lang/invoke/VarHandle" ∧ (parseMethodDescriptor yX4_fitting.desc).map (fun d => d.parameters.length) = some 0 := by decide +kernel
set_option maxHeartbeats 4000000 in
set_option maxRecDepth 100000 in
theorem zc_X4_fitting (l : Launch) (D : va_G) (cI cZ : ClassId) (z : Nat) (zp : Nat) (zd : Nat) (cr : Nat) (ft : Int32) (kd : Int32) (su : Int32) : zI l yX4_fitting cX4_fitting 1 .int 0 0 D cI cZ [.ref z] [(z, .inr (4, [.ref zp, .ref zd, .int (nI cr), .int ft, .int kd, .int su]))] (fun (r : Int32) (u : Unit) => r = ft) (fun (u : Unit) => [(z, .inr (4, [.ref zp, .ref zd, .int (nI cr), .int ft, .int kd, .int su]))]) := by
  refine zI_of (by decide) (Nat.le_of_ble_eq_true rfl) ?_
  intro pP eE sS mM aA bB mT cC A ls Z hP hD hS hl
  have hx := Z.1
  have hb := Z.2.1
  have hown := Z.2.2.2.2.2.1
  have hts := Z.2.2.2.2.1
  have Z : zAt pP sS mM aA mT cC D cI cZ A "SurpriseTax$Rolls" cX4_fitting 1 (some .int) := Z
  have hl : lv_has ls 1 [(0, .ref z)] := hl
  obtain ⟨H, hH⟩ : ∃ H, H = sS.heap := ⟨_, rfl⟩
  have hP : va_P D vwCl [(z, .inr (4, [.ref zp, .ref zd, .int (nI cr), .int ft, .int kd, .int su]))] H := by rw [hH]; exact hP
  have hS : va_S A sS.heap H [] := by rw [hH]; exact hS
  rw [← hH]
  clear hH
  obtain ⟨locs, hlo⟩ : ∃ q : List Loc, q = [] := ⟨_, rfl⟩
  rw [← hlo] at hS ⊢
  clear hlo
  refine lv_aload_n hx hb dX4_fitting_0 rfl (lv_at hl 0 rfl) ?_
  refine z_get (ci := 4) (v := .int ft) Z zin4 hP 0 rfl rfl 3 (by decide) zm141 rfl rfl dX4_fitting_1 ?_
  exact z_iret Z () rfl hP hS dX4_fitting_4

theorem dX4_kinds_0 : decode cX4_kinds 0 = .ok (.aload_n 0, 1) := by decide +kernel
theorem dX4_kinds_1 : decode cX4_kinds 1 = .ok (.getfield 25, 3) := by decide +kernel
theorem dX4_kinds_4 : decode cX4_kinds 4 = .ok (.ireturn, 1) := by decide +kernel
theorem zd_X4_kinds : yX4_kinds.cls ≠ "java/lang/invoke/MethodHandle" ∧ yX4_kinds.cls ≠ "java/lang/invoke/VarHandle" ∧ (parseMethodDescriptor yX4_kinds.desc).map (fun d => d.parameters.length) = some 0 := by decide +kernel
set_option maxHeartbeats 4000000 in
set_option maxRecDepth 100000 in
theorem zc_X4_kinds (l : Launch) (D : va_G) (cI cZ : ClassId) (z : Nat) (zp : Nat) (zd : Nat) (cr : Nat) (ft : Int32) (kd : Int32) (su : Int32) : zI l yX4_kinds cX4_kinds 1 .int 0 0 D cI cZ [.ref z] [(z, .inr (4, [.ref zp, .ref zd, .int (nI cr), .int ft, .int kd, .int su]))] (fun (r : Int32) (u : Unit) => r = kd) (fun (u : Unit) => [(z, .inr (4, [.ref zp, .ref zd, .int (nI cr), .int ft, .int kd, .int su]))]) := by
  refine zI_of (by decide) (Nat.le_of_ble_eq_true rfl) ?_
  intro pP eE sS mM aA bB mT cC A ls Z hP hD hS hl
  have hx := Z.1
  have hb := Z.2.1
  have hown := Z.2.2.2.2.2.1
  have hts := Z.2.2.2.2.1
  have Z : zAt pP sS mM aA mT cC D cI cZ A "SurpriseTax$Rolls" cX4_kinds 1 (some .int) := Z
  have hl : lv_has ls 1 [(0, .ref z)] := hl
  obtain ⟨H, hH⟩ : ∃ H, H = sS.heap := ⟨_, rfl⟩
  have hP : va_P D vwCl [(z, .inr (4, [.ref zp, .ref zd, .int (nI cr), .int ft, .int kd, .int su]))] H := by rw [hH]; exact hP
  have hS : va_S A sS.heap H [] := by rw [hH]; exact hS
  rw [← hH]
  clear hH
  obtain ⟨locs, hlo⟩ : ∃ q : List Loc, q = [] := ⟨_, rfl⟩
  rw [← hlo] at hS ⊢
  clear hlo
  refine lv_aload_n hx hb dX4_kinds_0 rfl (lv_at hl 0 rfl) ?_
  refine z_get (ci := 4) (v := .int kd) Z zin4 hP 0 rfl rfl 4 (by decide) zm142 rfl rfl dX4_kinds_1 ?_
  exact z_iret Z () rfl hP hS dX4_kinds_4

theorem dX4_sure_0 : decode cX4_sure 0 = .ok (.aload_n 0, 1) := by decide +kernel
theorem dX4_sure_1 : decode cX4_sure 1 = .ok (.getfield 22, 3) := by decide +kernel
theorem dX4_sure_4 : decode cX4_sure 4 = .ok (.ifCond .ne 8, 3) := by decide +kernel
theorem dX4_sure_7 : decode cX4_sure 7 = .ok (.bipush (-9), 2) := by decide +kernel
theorem dX4_sure_9 : decode cX4_sure 9 = .ok (.goto 7, 3) := by decide +kernel
theorem dX4_sure_12 : decode cX4_sure 12 = .ok (.aload_n 0, 1) := by decide +kernel
theorem dX4_sure_13 : decode cX4_sure 13 = .ok (.getfield 28, 3) := by decide +kernel
theorem dX4_sure_16 : decode cX4_sure 16 = .ok (.ireturn, 1) := by decide +kernel
theorem zd_X4_sure : yX4_sure.cls ≠ "java/lang/invoke/MethodHandle" ∧ yX4_sure.cls ≠ "java/lang/invoke/VarHandle" ∧ (parseMethodDescriptor yX4_sure.desc).map (fun d => d.parameters.length) = some 0 := by decide +kernel
set_option maxHeartbeats 4000000 in
set_option maxRecDepth 100000 in
theorem zc_X4_sure (l : Launch) (D : va_G) (cI cZ : ClassId) (z : Nat) (zp : Nat) (zd : Nat) (cr : Nat) (ft : Int32) (kd : Int32) (su : Int32) : zI l yX4_sure cX4_sure 1 .int 0 0 D cI cZ [.ref z] [(z, .inr (4, [.ref zp, .ref zd, .int (nI cr), .int ft, .int kd, .int su]))] (fun (r : Int32) (u : Unit) => r = if ft = 0 then -9 else su) (fun (u : Unit) => [(z, .inr (4, [.ref zp, .ref zd, .int (nI cr), .int ft, .int kd, .int su]))]) := by
  refine zI_of (by decide) (Nat.le_of_ble_eq_true rfl) ?_
  intro pP eE sS mM aA bB mT cC A ls Z hP hD hS hl
  have hx := Z.1
  have hb := Z.2.1
  have hown := Z.2.2.2.2.2.1
  have hts := Z.2.2.2.2.1
  have Z : zAt pP sS mM aA mT cC D cI cZ A "SurpriseTax$Rolls" cX4_sure 1 (some .int) := Z
  have hl : lv_has ls 1 [(0, .ref z)] := hl
  obtain ⟨H, hH⟩ : ∃ H, H = sS.heap := ⟨_, rfl⟩
  have hP : va_P D vwCl [(z, .inr (4, [.ref zp, .ref zd, .int (nI cr), .int ft, .int kd, .int su]))] H := by rw [hH]; exact hP
  have hS : va_S A sS.heap H [] := by rw [hH]; exact hS
  rw [← hH]
  clear hH
  obtain ⟨locs, hlo⟩ : ∃ q : List Loc, q = [] := ⟨_, rfl⟩
  rw [← hlo] at hS ⊢
  clear hlo
  refine lv_aload_n hx hb dX4_sure_0 rfl (lv_at hl 0 rfl) ?_
  refine z_get (ci := 4) (v := .int ft) Z zin4 hP 0 rfl rfl 3 (by decide) zm141 rfl rfl dX4_sure_1 ?_
  refine lv_if_ne (tgt := 12) hx hb dX4_sure_4 (by decide) (fun c_1 => ?_) (fun c_1 => ?_)
  · have c_1 : ¬ (ft = 0) := c_1
    refine lv_aload_n hx hb dX4_sure_12 rfl (lv_at hl 0 rfl) ?_
    refine z_get (ci := 4) (v := .int su) Z zin4 hP 0 rfl rfl 5 (by decide) zm143 rfl rfl dX4_sure_13 ?_
    exact z_iret Z () (by (first | rfl | (simp [c_1]; done) | (simp_all []; done))) hP hS dX4_sure_16
  · have c_1 : ft = 0 := c_1
    refine lv_bipush (v := -9) hx hb dX4_sure_7 (by decide) ?_
    refine lv_goto (tgt := 16) hx hb dX4_sure_9 (by decide) ?_
    exact z_iret Z () (by (first | rfl | (simp [c_1]; done) | (simp_all []; done))) hP hS dX4_sure_16

theorem dX4_addTale_0 : decode cX4_addTale 0 = .ok (.aload_n 0, 1) := by decide +kernel
theorem dX4_addTale_1 : decode cX4_addTale 1 = .ok (.dup, 1) := by decide +kernel
theorem dX4_addTale_2 : decode cX4_addTale 2 = .ok (.getfield 22, 3) := by decide +kernel
theorem dX4_addTale_5 : decode cX4_addTale 5 = .ok (.iconst 1, 1) := by decide +kernel
theorem dX4_addTale_6 : decode cX4_addTale 6 = .ok (.iadd, 1) := by decide +kernel
theorem dX4_addTale_7 : decode cX4_addTale 7 = .ok (.putfield 22, 3) := by decide +kernel
theorem dX4_addTale_10 : decode cX4_addTale 10 = .ok (.aload_n 0, 1) := by decide +kernel
theorem dX4_addTale_11 : decode cX4_addTale 11 = .ok (.dup, 1) := by decide +kernel
theorem dX4_addTale_12 : decode cX4_addTale 12 = .ok (.getfield 25, 3) := by decide +kernel
theorem dX4_addTale_15 : decode cX4_addTale 15 = .ok (.iconst 1, 1) := by decide +kernel
theorem dX4_addTale_16 : decode cX4_addTale 16 = .ok (.iload_n 1, 1) := by decide +kernel
theorem dX4_addTale_17 : decode cX4_addTale 17 = .ok (.ishl, 1) := by decide +kernel
theorem dX4_addTale_18 : decode cX4_addTale 18 = .ok (.ior, 1) := by decide +kernel
theorem dX4_addTale_19 : decode cX4_addTale 19 = .ok (.putfield 25, 3) := by decide +kernel
theorem dX4_addTale_22 : decode cX4_addTale 22 = .ok (.aload_n 0, 1) := by decide +kernel
theorem dX4_addTale_23 : decode cX4_addTale 23 = .ok (.dup, 1) := by decide +kernel
theorem dX4_addTale_24 : decode cX4_addTale 24 = .ok (.getfield 28, 3) := by decide +kernel
theorem dX4_addTale_27 : decode cX4_addTale 27 = .ok (.iload_n 2, 1) := by decide +kernel
theorem dX4_addTale_28 : decode cX4_addTale 28 = .ok (.iand, 1) := by decide +kernel
theorem dX4_addTale_29 : decode cX4_addTale 29 = .ok (.putfield 28, 3) := by decide +kernel
theorem dX4_addTale_32 : decode cX4_addTale 32 = .ok (.return_, 1) := by decide +kernel
theorem zd_X4_addTale : yX4_addTale.cls ≠ "java/lang/invoke/MethodHandle" ∧ yX4_addTale.cls ≠ "java/lang/invoke/VarHandle" ∧ (parseMethodDescriptor yX4_addTale.desc).map (fun d => d.parameters.length) = some 2 := by decide +kernel
set_option maxHeartbeats 4000000 in
set_option maxRecDepth 100000 in
theorem zc_X4_addTale (l : Launch) (D : va_G) (cI cZ : ClassId) (z : Nat) (zp : Nat) (zd : Nat) (cr : Nat) (ft : Int32) (kd : Int32) (su : Int32) (k : Nat) (w : Nat) : zV l yX4_addTale cX4_addTale 3 0 0 D cI cZ [.ref z, .int (nI k), .int (nI w)] [(z, .inr (4, [.ref zp, .ref zd, .int (nI cr), .int ft, .int kd, .int su]))] (fun (u : Unit) => True) (fun (u : Unit) => [(z, .inr (4, [.ref zp, .ref zd, .int (nI cr), .int (ft + 1), .int (kd ||| zbit k), .int (su &&& nI w)]))]) := by
  refine zV_of (by decide) (Nat.le_of_ble_eq_true rfl) ?_
  intro pP eE sS mM aA bB mT cC A ls Z hP hD hS hl
  have hx := Z.1
  have hb := Z.2.1
  have hown := Z.2.2.2.2.2.1
  have hts := Z.2.2.2.2.1
  have Z : zAt pP sS mM aA mT cC D cI cZ A "SurpriseTax$Rolls" cX4_addTale 3 none := Z
  have hl : lv_has ls 3 [(0, .ref z), (1, .int (nI k)), (2, .int (nI w))] := hl
  obtain ⟨H, hH⟩ : ∃ H, H = sS.heap := ⟨_, rfl⟩
  have hP : va_P D vwCl [(z, .inr (4, [.ref zp, .ref zd, .int (nI cr), .int ft, .int kd, .int su]))] H := by rw [hH]; exact hP
  have hS : va_S A sS.heap H [] := by rw [hH]; exact hS
  rw [← hH]
  clear hH
  obtain ⟨locs, hlo⟩ : ∃ q : List Loc, q = [] := ⟨_, rfl⟩
  rw [← hlo] at hS ⊢
  clear hlo
  refine lv_aload_n hx hb dX4_addTale_0 rfl (lv_at hl 0 rfl) ?_
  refine lv_dup hx hb dX4_addTale_1 rfl ?_
  refine z_get (ci := 4) (v := .int ft) Z zin4 hP 0 rfl rfl 3 (by decide) zm141 rfl rfl dX4_addTale_2 ?_
  refine lv_iconst (v := nI 1) hx hb dX4_addTale_5 (by decide) ?_
  refine lv_iadd hx hb dX4_addTale_6 ?_
  refine z_top (y := ft + 1) rfl ?_
  refine z_put (ci := 4) (v := .int (ft + 1)) Z zin4 tyX4 tyX4_ok nmX4 hP hD hS 0 rfl rfl 3 (by decide) zm141 rfl rfl rfl rfl (Nat.le_of_ble_eq_true rfl) dX4_addTale_7 (fun H locs hP hD hS => ?_)
  have hP : va_P D vwCl [(z, .inr (4, [.ref zp, .ref zd, .int (nI cr), .int (ft + 1), .int kd, .int su]))] H := hP
  have hD : va_D A [(z, .inr (4, [.ref zp, .ref zd, .int (nI cr), .int (ft + 1), .int kd, .int su]))] := hD
  refine lv_aload_n hx hb dX4_addTale_10 rfl (lv_at hl 0 rfl) ?_
  refine lv_dup hx hb dX4_addTale_11 rfl ?_
  refine z_get (ci := 4) (v := .int kd) Z zin4 hP 0 rfl rfl 4 (by decide) zm142 rfl rfl dX4_addTale_12 ?_
  refine lv_iconst (v := nI 1) hx hb dX4_addTale_15 (by decide) ?_
  refine lv_iload_n hx hb dX4_addTale_16 rfl (lv_at hl 1 rfl) ?_
  refine lv_ishl hx hb dX4_addTale_17 ?_
  refine z_top (y := (1 : Int32) <<< ((nI k) &&& 31)) rfl ?_
  refine z_top (y := zbit k) (rfl) ?_
  refine lv_ior hx hb dX4_addTale_18 ?_
  refine z_top (y := kd ||| (zbit k)) rfl ?_
  refine z_put (ci := 4) (v := .int (kd ||| (zbit k))) Z zin4 tyX4 tyX4_ok nmX4 hP hD hS 0 rfl rfl 4 (by decide) zm142 rfl rfl rfl rfl (Nat.le_of_ble_eq_true rfl) dX4_addTale_19 (fun H locs hP hD hS => ?_)
  have hP : va_P D vwCl [(z, .inr (4, [.ref zp, .ref zd, .int (nI cr), .int (ft + 1), .int (kd ||| (zbit k)), .int su]))] H := hP
  have hD : va_D A [(z, .inr (4, [.ref zp, .ref zd, .int (nI cr), .int (ft + 1), .int (kd ||| (zbit k)), .int su]))] := hD
  refine lv_aload_n hx hb dX4_addTale_22 rfl (lv_at hl 0 rfl) ?_
  refine lv_dup hx hb dX4_addTale_23 rfl ?_
  refine z_get (ci := 4) (v := .int su) Z zin4 hP 0 rfl rfl 5 (by decide) zm143 rfl rfl dX4_addTale_24 ?_
  refine lv_iload_n hx hb dX4_addTale_27 rfl (lv_at hl 2 rfl) ?_
  refine lv_iand hx hb dX4_addTale_28 ?_
  refine z_top (y := su &&& (nI w)) rfl ?_
  refine z_put (ci := 4) (v := .int (su &&& (nI w))) Z zin4 tyX4 tyX4_ok nmX4 hP hD hS 0 rfl rfl 5 (by decide) zm143 rfl rfl rfl rfl (Nat.le_of_ble_eq_true rfl) dX4_addTale_29 (fun H locs hP hD hS => ?_)
  have hP : va_P D vwCl [(z, .inr (4, [.ref zp, .ref zd, .int (nI cr), .int (ft + 1), .int (kd ||| (zbit k)), .int (su &&& (nI w))]))] H := hP
  have hD : va_D A [(z, .inr (4, [.ref zp, .ref zd, .int (nI cr), .int (ft + 1), .int (kd ||| (zbit k)), .int (su &&& (nI w))]))] := hD
  have e_1 : kd ||| (zbit k) = kd ||| zbit k := by (first | rfl | (simp []; done) | (simp_all []; done))
  have hP : va_P D vwCl [(z, .inr (4, [.ref zp, .ref zd, .int (nI cr), .int (ft + 1), .int (kd ||| zbit k), .int (su &&& (nI w))]))] H := Eq.subst (motive := fun zz_ => va_P D vwCl [(z, .inr (4, [.ref zp, .ref zd, .int (nI cr), .int (ft + 1), .int zz_, .int (su &&& (nI w))]))] H) e_1 hP
  have e_2 : su &&& (nI w) = su &&& nI w := by (first | rfl | (simp []; done) | (simp_all []; done))
  have hP : va_P D vwCl [(z, .inr (4, [.ref zp, .ref zd, .int (nI cr), .int (ft + 1), .int (kd ||| zbit k), .int (su &&& nI w)]))] H := Eq.subst (motive := fun zz_ => va_P D vwCl [(z, .inr (4, [.ref zp, .ref zd, .int (nI cr), .int (ft + 1), .int (kd ||| zbit k), .int zz_]))] H) e_2 hP
  have hD : va_D A [(z, .inr (4, [.ref zp, .ref zd, .int (nI cr), .int (ft + 1), .int (kd ||| zbit k), .int (su &&& nI w)]))] := zD_of hD rfl
  exact z_vret Z () trivial hP hS dX4_addTale_32

theorem dX4_fits_0 : decode cX4_fits 0 = .ok (.iconst 0, 1) := by decide +kernel
theorem dX4_fits_1 : decode cX4_fits 1 = .ok (.istore 5, 2) := by decide +kernel
theorem dX4_fits_3 : decode cX4_fits 3 = .ok (.iload 5, 2) := by decide +kernel
theorem dX4_fits_5 : decode cX4_fits 5 = .ok (.aload_n 0, 1) := by decide +kernel
theorem dX4_fits_6 : decode cX4_fits 6 = .ok (.getfield 18, 3) := by decide +kernel
theorem dX4_fits_9 : decode cX4_fits 9 = .ok (.if_icmp .ge 76, 3) := by decide +kernel
theorem dX4_fits_12 : decode cX4_fits 12 = .ok (.aload_n 0, 1) := by decide +kernel
theorem dX4_fits_13 : decode cX4_fits 13 = .ok (.getfield 9, 3) := by decide +kernel
theorem dX4_fits_16 : decode cX4_fits 16 = .ok (.iload 5, 2) := by decide +kernel
theorem dX4_fits_18 : decode cX4_fits 18 = .ok (.iaload, 1) := by decide +kernel
theorem dX4_fits_19 : decode cX4_fits 19 = .ok (.istore 6, 2) := by decide +kernel
theorem dX4_fits_21 : decode cX4_fits 21 = .ok (.aload_n 1, 1) := by decide +kernel
theorem dX4_fits_22 : decode cX4_fits 22 = .ok (.iload 6, 2) := by decide +kernel
theorem dX4_fits_24 : decode cX4_fits 24 = .ok (.invokevirtual 50, 3) := by decide +kernel
theorem dX4_fits_27 : decode cX4_fits 27 = .ok (.ifCond .ne 6, 3) := by decide +kernel
theorem dX4_fits_30 : decode cX4_fits 30 = .ok (.goto 49, 3) := by decide +kernel
theorem dX4_fits_33 : decode cX4_fits 33 = .ok (.iload 4, 2) := by decide +kernel
theorem dX4_fits_35 : decode cX4_fits 35 = .ok (.iload 6, 2) := by decide +kernel
theorem dX4_fits_37 : decode cX4_fits 37 = .ok (.ishr, 1) := by decide +kernel
theorem dX4_fits_38 : decode cX4_fits 38 = .ok (.iconst 1, 1) := by decide +kernel
theorem dX4_fits_39 : decode cX4_fits 39 = .ok (.iand, 1) := by decide +kernel
theorem dX4_fits_40 : decode cX4_fits 40 = .ok (.ifCond .ne 7, 3) := by decide +kernel
theorem dX4_fits_43 : decode cX4_fits 43 = .ok (.iconst 1, 1) := by decide +kernel
theorem dX4_fits_44 : decode cX4_fits 44 = .ok (.goto 4, 3) := by decide +kernel
theorem dX4_fits_47 : decode cX4_fits 47 = .ok (.iconst 0, 1) := by decide +kernel
theorem dX4_fits_48 : decode cX4_fits 48 = .ok (.istore 7, 2) := by decide +kernel
theorem dX4_fits_50 : decode cX4_fits 50 = .ok (.aload_n 0, 1) := by decide +kernel
theorem dX4_fits_51 : decode cX4_fits 51 = .ok (.getfield 15, 3) := by decide +kernel
theorem dX4_fits_54 : decode cX4_fits 54 = .ok (.iload 5, 2) := by decide +kernel
theorem dX4_fits_56 : decode cX4_fits 56 = .ok (.iaload, 1) := by decide +kernel
theorem dX4_fits_57 : decode cX4_fits 57 = .ok (.iload 7, 2) := by decide +kernel
theorem dX4_fits_59 : decode cX4_fits 59 = .ok (.ifCond .eq 14, 3) := by decide +kernel
theorem dX4_fits_62 : decode cX4_fits 62 = .ok (.aload_n 1, 1) := by decide +kernel
theorem dX4_fits_63 : decode cX4_fits 63 = .ok (.aload_n 2, 1) := by decide +kernel
theorem dX4_fits_64 : decode cX4_fits 64 = .ok (.iload 6, 2) := by decide +kernel
theorem dX4_fits_66 : decode cX4_fits 66 = .ok (.iload_n 3, 1) := by decide +kernel
theorem dX4_fits_67 : decode cX4_fits 67 = .ok (.invokevirtual 53, 3) := by decide +kernel
theorem dX4_fits_70 : decode cX4_fits 70 = .ok (.goto 4, 3) := by decide +kernel
theorem dX4_fits_73 : decode cX4_fits 73 = .ok (.iconst 0, 1) := by decide +kernel
theorem dX4_fits_74 : decode cX4_fits 74 = .ok (.if_icmp .eq 5, 3) := by decide +kernel
theorem dX4_fits_77 : decode cX4_fits 77 = .ok (.iconst 0, 1) := by decide +kernel
theorem dX4_fits_78 : decode cX4_fits 78 = .ok (.ireturn, 1) := by decide +kernel
theorem dX4_fits_79 : decode cX4_fits 79 = .ok (.iinc 5 1, 3) := by decide +kernel
theorem dX4_fits_82 : decode cX4_fits 82 = .ok (.goto (-79), 3) := by decide +kernel
theorem dX4_fits_85 : decode cX4_fits 85 = .ok (.iconst 1, 1) := by decide +kernel
theorem dX4_fits_86 : decode cX4_fits 86 = .ok (.ireturn, 1) := by decide +kernel
theorem zd_X4_fits : yX4_fits.cls ≠ "java/lang/invoke/MethodHandle" ∧ yX4_fits.cls ≠ "java/lang/invoke/VarHandle" ∧ (parseMethodDescriptor yX4_fits.desc).map (fun d => d.parameters.length) = some 4 := by decide +kernel
set_option maxHeartbeats 4000000 in
set_option maxRecDepth 100000 in
theorem zc_X4_fits (l : Launch) (D : va_G) (cI cZ : ClassId) (z : Nat) (zp : Nat) (zd : Nat) (cr : Nat) (ft : Int32) (kd : Int32) (su : Int32) (pw : Nat → Int32) (pd : Nat → Int32) (r : Nat) (ro : Nat) (rn : Nat) (rr : Nat) (rt : Int32) (fr : Int32) (pr : Int32) (n : Nat) (m : Nat) (a : Nat) (b : Nat) (f : Nat → Int32) (k : Nat) (w : Nat) (hcr : cr ≤ 6) (hn : n ≤ 5) (hk : k < 4) : zI l yX4_fits cX4_fits 8 .boolean 3 61 D cI cZ [.ref z, .ref r, .ref a, .int (nI k), .int (nI w)] [(z, .inr (4, [.ref zp, .ref zd, .int (nI cr), .int ft, .int kd, .int su])), (zp, .inl (cI, 6, .inl pw)), (zd, .inl (cI, 6, .inl pd)), (r, .inr (3, [.ref ro, .ref rn, .ref rr, .int rt, .int fr, .int pr, .int (nI n), .int (nI m)])), (a, .inr (6, [.ref b])), (b, .inl (cI, 36, .inl f))] (fun (r : Int32) (u : Unit) => r = if zfit pw pd f rt fr n k w cr = true then 1 else 0) (fun (u : Unit) => [(z, .inr (4, [.ref zp, .ref zd, .int (nI cr), .int ft, .int kd, .int su])), (zp, .inl (cI, 6, .inl pw)), (zd, .inl (cI, 6, .inl pd)), (r, .inr (3, [.ref ro, .ref rn, .ref rr, .int rt, .int fr, .int pr, .int (nI n), .int (nI m)])), (a, .inr (6, [.ref b])), (b, .inl (cI, 36, .inl f))]) := by
  refine zI_of (by decide) (Nat.le_of_ble_eq_true rfl) ?_
  intro pP eE sS mM aA bB mT cC A ls Z hP hD hS hl
  have hx := Z.1
  have hb := Z.2.1
  have hown := Z.2.2.2.2.2.1
  have hts := Z.2.2.2.2.1
  have Z : zAt pP sS mM aA mT cC D cI cZ A "SurpriseTax$Rolls" cX4_fits 8 (some .boolean) := Z
  have hl : lv_has ls 8 [(0, .ref z), (1, .ref r), (2, .ref a), (3, .int (nI k)), (4, .int (nI w))] := hl
  obtain ⟨H, hH⟩ : ∃ H, H = sS.heap := ⟨_, rfl⟩
  have hP : va_P D vwCl [(z, .inr (4, [.ref zp, .ref zd, .int (nI cr), .int ft, .int kd, .int su])), (zp, .inl (cI, 6, .inl pw)), (zd, .inl (cI, 6, .inl pd)), (r, .inr (3, [.ref ro, .ref rn, .ref rr, .int rt, .int fr, .int pr, .int (nI n), .int (nI m)])), (a, .inr (6, [.ref b])), (b, .inl (cI, 36, .inl f))] H := by rw [hH]; exact hP
  have hS : va_S A sS.heap H [] := by rw [hH]; exact hS
  rw [← hH]
  clear hH
  obtain ⟨locs, hlo⟩ : ∃ q : List Loc, q = [] := ⟨_, rfl⟩
  rw [← hlo] at hS ⊢
  clear hlo
  refine lv_iconst (v := nI 0) hx hb dX4_fits_0 (by decide) ?_
  refine lv_istore (lv' := [(5, .int (nI 0)), (0, .ref z), (1, .ref r), (2, .ref a), (3, .int (nI k)), (4, .int (nI w))]) hx hb dX4_fits_1 hl (by decide) rfl (fun ls hl => ?_)
  have hl : lv_has ls 8 [(5, .int (nI 0)), (0, .ref z), (1, .ref r), (2, .ref a), (3, .int (nI k)), (4, .int (nI w))] := lv_sub hl [0, 1, 2, 3, 4, 5] rfl
  refine z_loop (fun i H locs ls => va_P D vwCl [(z, .inr (4, [.ref zp, .ref zd, .int (nI cr), .int ft, .int kd, .int su])), (zp, .inl (cI, 6, .inl pw)), (zd, .inl (cI, 6, .inl pd)), (r, .inr (3, [.ref ro, .ref rn, .ref rr, .int rt, .int fr, .int pr, .int (nI n), .int (nI m)])), (a, .inr (6, [.ref b])), (b, .inl (cI, 36, .inl f))] H ∧ va_D A [(z, .inr (4, [.ref zp, .ref zd, .int (nI cr), .int ft, .int kd, .int su])), (zp, .inl (cI, 6, .inl pw)), (zd, .inl (cI, 6, .inl pd)), (r, .inr (3, [.ref ro, .ref rn, .ref rr, .int rt, .int fr, .int pr, .int (nI n), .int (nI m)])), (a, .inr (6, [.ref b])), (b, .inl (cI, 36, .inl f))] ∧ va_S A sS.heap H locs ∧ lv_has ls 8 [(5, .int (nI i)), (0, .ref z), (1, .ref r), (2, .ref a), (3, .int (nI k)), (4, .int (nI w))] ∧ (zfit pw pd f rt fr n k w i = true)) (cr) (lo := 0) (by omega) ⟨hP, hD, hS, hl, (by rfl)⟩ (fun i hi_i ih_1 H locs ls hI => ?_)
  obtain ⟨hP, hD, hS, hl, hv3_0⟩ := hI
  have hv3_0 : zfit pw pd f rt fr n k w i = true := hv3_0
  have hP : va_P D vwCl [(z, .inr (4, [.ref zp, .ref zd, .int (nI cr), .int ft, .int kd, .int su])), (zp, .inl (cI, 6, .inl pw)), (zd, .inl (cI, 6, .inl pd)), (r, .inr (3, [.ref ro, .ref rn, .ref rr, .int rt, .int fr, .int pr, .int (nI n), .int (nI m)])), (a, .inr (6, [.ref b])), (b, .inl (cI, 36, .inl f))] H := hP
  have hD : va_D A [(z, .inr (4, [.ref zp, .ref zd, .int (nI cr), .int ft, .int kd, .int su])), (zp, .inl (cI, 6, .inl pw)), (zd, .inl (cI, 6, .inl pd)), (r, .inr (3, [.ref ro, .ref rn, .ref rr, .int rt, .int fr, .int pr, .int (nI n), .int (nI m)])), (a, .inr (6, [.ref b])), (b, .inl (cI, 36, .inl f))] := hD
  have hl : lv_has ls 8 [(5, .int (nI i)), (0, .ref z), (1, .ref r), (2, .ref a), (3, .int (nI k)), (4, .int (nI w))] := hl
  refine lv_iload hx hb dX4_fits_3 (lv_at hl 0 rfl) ?_
  refine lv_aload_n hx hb dX4_fits_5 rfl (lv_at hl 1 rfl) ?_
  refine z_get (ci := 4) (v := .int (nI cr)) Z zin4 hP 0 rfl rfl 2 (by decide) zm140 rfl rfl dX4_fits_6 ?_
  refine lv_icmp_ge (tgt := 85) hx hb dX4_fits_9 (by decide) (fun c_2 => ?_) (fun c_2 => ?_)
  · have c_2 := zle (i := cr) (j := i) (by omega) (by omega) c_2
    have hE_ : cr = i := by omega
    subst hE_
    refine lv_iconst (v := nI 1) hx hb dX4_fits_85 (by decide) ?_
    exact z_zret Z () (by decide) (by rw [hv3_0]; rfl) hP hS dX4_fits_86
  · have c_2 := znle (i := cr) (j := i) (by omega) (by omega) c_2
    refine lv_aload_n hx hb dX4_fits_12 rfl (lv_at hl 1 rfl) ?_
    refine z_get (ci := 4) (v := .ref zp) Z zin4 hP 0 rfl rfl 0 (by decide) zm138 rfl rfl dX4_fits_13 ?_
    refine lv_iload hx hb dX4_fits_16 (lv_at hl 0 rfl) ?_
    refine z_iald (n := 6) (f := pw) (j := i) Z hP 1 rfl (by omega) (by decide) dX4_fits_18 ?_
    refine lv_istore (lv' := [(6, .int (pw i)), (5, .int (nI i)), (0, .ref z), (1, .ref r), (2, .ref a), (3, .int (nI k)), (4, .int (nI w))]) hx hb dX4_fits_19 hl (by decide) rfl (fun ls hl => ?_)
    refine lv_aload_n hx hb dX4_fits_21 rfl (lv_at hl 3 rfl) ?_
    refine lv_iload hx hb dX4_fits_22 (lv_at hl 0 rfl) ?_
    refine z_callVi (As := [.int (pw i)]) (rest := []) (ci := 3) (k0 := 0) Z hP hD hS hl.1 (zc_X3_has l D cI cZ r ro rn rr rt fr pr n m (pw i) ) zm551 zm270 zm271 zm32 zm272 ⟨rfl, zd_X3_has⟩ ⟨Nat.le_of_ble_eq_true rfl, Nat.le_of_ble_eq_true rfl⟩ ⟨Nat.zero_le _, Nat.zero_le _⟩ [3] rfl (by decide) rfl rfl rfl (fun _ => rfl) rfl (Nat.le_of_ble_eq_true rfl) rfl dX4_fits_24 (fun r_3 u H locs h_4 hP hD hS => ?_)
    have hP : va_P D vwCl [(z, .inr (4, [.ref zp, .ref zd, .int (nI cr), .int ft, .int kd, .int su])), (zp, .inl (cI, 6, .inl pw)), (zd, .inl (cI, 6, .inl pd)), (r, .inr (3, [.ref ro, .ref rn, .ref rr, .int rt, .int fr, .int pr, .int (nI n), .int (nI m)])), (a, .inr (6, [.ref b])), (b, .inl (cI, 36, .inl f))] H := hP
    have hD : va_D A [(z, .inr (4, [.ref zp, .ref zd, .int (nI cr), .int ft, .int kd, .int su])), (zp, .inl (cI, 6, .inl pw)), (zd, .inl (cI, 6, .inl pd)), (r, .inr (3, [.ref ro, .ref rn, .ref rr, .int rt, .int fr, .int pr, .int (nI n), .int (nI m)])), (a, .inr (6, [.ref b])), (b, .inl (cI, 36, .inl f))] := hD
    have h_4 : r_3 = if zhas n (pw i) then 1 else 0 := h_4
    subst h_4
    refine lv_if_ne (tgt := 33) hx hb dX4_fits_27 (by decide) (fun c_5 => ?_) (fun c_5 => ?_)
    · have c_5 := zb1 c_5
      obtain ⟨p, hp, hw⟩ := zhas_of (n := n) (by omega) c_5
      have hE : pw i = nI p := hw
      have hl : lv_has ls 8 [(6, .int (nI p)), (5, .int (nI i)), (0, .ref z), (1, .ref r), (2, .ref a), (3, .int (nI k)), (4, .int (nI w))] := Eq.subst (motive := fun zz_ => lv_has ls 8 [(6, .int zz_), (5, .int (nI i)), (0, .ref z), (1, .ref r), (2, .ref a), (3, .int (nI k)), (4, .int (nI w))]) hE hl
      refine lv_iload hx hb dX4_fits_33 (lv_at hl 6 rfl) ?_
      refine lv_iload hx hb dX4_fits_35 (lv_at hl 0 rfl) ?_
      refine lv_ishr hx hb dX4_fits_37 ?_
      refine z_top (y := (nI w) >>> ((nI p) &&& 31)) rfl ?_
      refine lv_iconst (v := nI 1) hx hb dX4_fits_38 (by decide) ?_
      refine lv_iand hx hb dX4_fits_39 ?_
      refine z_top (y := ((nI w) >>> ((nI p) &&& 31)) &&& 1) rfl ?_
      refine lv_if_ne (tgt := 47) hx hb dX4_fits_40 (by decide) (fun c_6 => ?_) (fun c_6 => ?_)
      · have c_6 : ¬ ((((nI w) >>> ((nI p) &&& 31)) &&& 1) = 0) := c_6
        refine lv_iconst (v := nI 0) hx hb dX4_fits_47 (by decide) ?_
        refine lv_istore (lv' := [(7, .int (nI 0)), (6, .int (nI p)), (5, .int (nI i)), (0, .ref z), (1, .ref r), (2, .ref a), (3, .int (nI k)), (4, .int (nI w))]) hx hb dX4_fits_48 hl (by decide) rfl (fun ls hl => ?_)
        refine lv_aload_n hx hb dX4_fits_50 rfl (lv_at hl 3 rfl) ?_
        refine z_get (ci := 4) (v := .ref zd) Z zin4 hP 0 rfl rfl 1 (by decide) zm139 rfl rfl dX4_fits_51 ?_
        refine lv_iload hx hb dX4_fits_54 (lv_at hl 2 rfl) ?_
        refine z_iald (n := 6) (f := pd) (j := i) Z hP 2 rfl (by omega) (by decide) dX4_fits_56 ?_
        refine lv_iload hx hb dX4_fits_57 (lv_at hl 0 rfl) ?_
        refine lv_if_eq (tgt := 73) hx hb dX4_fits_59 (by decide) (fun c_7 => ?_) (fun c_7 => ?_)
        · have c_7 := zeq (i := 0) (j := 0) (by decide) (by decide) c_7
          refine lv_iconst (v := nI 0) hx hb dX4_fits_73 (by decide) ?_
          refine lv_icmp_eq (tgt := 79) hx hb dX4_fits_74 (by decide) (fun c_8 => ?_) (fun c_8 => ?_)
          · have c_8 : (pd i) = 0 := c_8
            refine lv_iinc (v := nI (i + 1)) (lv' := [(5, .int (nI (i + 1))), (7, .int (nI 0)), (6, .int (nI p)), (0, .ref z), (1, .ref r), (2, .ref a), (3, .int (nI k)), (4, .int (nI w))]) hx hb dX4_fits_79 hl (k := 2) rfl (z_inc _ 1) (by decide) rfl (fun ls hl => ?_)
            refine lv_goto (tgt := 3) hx hb dX4_fits_82 (by decide) ?_
            have hl : lv_has ls 8 [(5, .int (nI (i + 1))), (0, .ref z), (1, .ref r), (2, .ref a), (3, .int (nI k)), (4, .int (nI w))] := lv_sub hl [0, 3, 4, 5, 6, 7] rfl
            exact ih_1 _ _ _ (by omega) ⟨hP, hD, hS, hl, (by first | exact zfit_s (by assumption) (zfi_n (by assumption)) | exact zfit_s (by assumption) (by rw [zfi_p hw hp (by omega)]; simp [*]))⟩
          · have c_8 : ¬ ((pd i) = 0) := c_8
            have hz := zfit_false (c := cr) (show zfi pw pd f rt fr n k w i = false by rw [zfi_p hw hp (by omega)]; simp [*]) (by omega)
            refine lv_iconst (v := nI 0) hx hb dX4_fits_77 (by decide) ?_
            exact z_zret Z () (by decide) (by rw [hz]; rfl) hP hS dX4_fits_78
        · exact absurd c_7 (by decide)
      · have c_6 : (((nI w) >>> ((nI p) &&& 31)) &&& 1) = 0 := c_6
        refine lv_iconst (v := nI 1) hx hb dX4_fits_43 (by decide) ?_
        refine lv_goto (tgt := 48) hx hb dX4_fits_44 (by decide) ?_
        refine lv_istore (lv' := [(7, .int (nI 1)), (6, .int (nI p)), (5, .int (nI i)), (0, .ref z), (1, .ref r), (2, .ref a), (3, .int (nI k)), (4, .int (nI w))]) hx hb dX4_fits_48 hl (by decide) rfl (fun ls hl => ?_)
        refine lv_aload_n hx hb dX4_fits_50 rfl (lv_at hl 3 rfl) ?_
        refine z_get (ci := 4) (v := .ref zd) Z zin4 hP 0 rfl rfl 1 (by decide) zm139 rfl rfl dX4_fits_51 ?_
        refine lv_iload hx hb dX4_fits_54 (lv_at hl 2 rfl) ?_
        refine z_iald (n := 6) (f := pd) (j := i) Z hP 2 rfl (by omega) (by decide) dX4_fits_56 ?_
        refine lv_iload hx hb dX4_fits_57 (lv_at hl 0 rfl) ?_
        refine lv_if_eq (tgt := 73) hx hb dX4_fits_59 (by decide) (fun c_9 => ?_) (fun c_9 => ?_)
        · exact absurd c_9 (by decide)
        · have c_9 := zne (i := 1) (j := 0) c_9
          refine lv_aload_n hx hb dX4_fits_62 rfl (lv_at hl 4 rfl) ?_
          refine lv_aload_n hx hb dX4_fits_63 rfl (lv_at hl 5 rfl) ?_
          refine lv_iload hx hb dX4_fits_64 (lv_at hl 1 rfl) ?_
          refine lv_iload_n hx hb dX4_fits_66 rfl (lv_at hl 6 rfl) ?_
          refine z_callVi (As := [.ref a, .int (nI p), .int (nI k)]) (rest := [.int (pd i)]) (ci := 3) (k0 := 0) Z hP hD hS hl.1 (zc_X3_taxOf l D cI cZ r ro rn rr rt fr pr n m a b f p k (by omega) (by omega)) zm552 zm392 zm393 zm32 zm394 ⟨rfl, zd_X3_taxOf⟩ ⟨Nat.le_of_ble_eq_true rfl, Nat.le_of_ble_eq_true rfl⟩ ⟨Nat.zero_le _, Nat.zero_le _⟩ [3, 4, 5] rfl (by decide) rfl rfl rfl (fun _ => rfl) rfl (Nat.le_of_ble_eq_true rfl) rfl dX4_fits_67 (fun r_10 u H locs h_11 hP hD hS => ?_)
          have hP : va_P D vwCl [(z, .inr (4, [.ref zp, .ref zd, .int (nI cr), .int ft, .int kd, .int su])), (zp, .inl (cI, 6, .inl pw)), (zd, .inl (cI, 6, .inl pd)), (r, .inr (3, [.ref ro, .ref rn, .ref rr, .int rt, .int fr, .int pr, .int (nI n), .int (nI m)])), (a, .inr (6, [.ref b])), (b, .inl (cI, 36, .inl f))] H := hP
          have hD : va_D A [(z, .inr (4, [.ref zp, .ref zd, .int (nI cr), .int ft, .int kd, .int su])), (zp, .inl (cI, 6, .inl pw)), (zd, .inl (cI, 6, .inl pd)), (r, .inr (3, [.ref ro, .ref rn, .ref rr, .int rt, .int fr, .int pr, .int (nI n), .int (nI m)])), (a, .inr (6, [.ref b])), (b, .inl (cI, 36, .inl f))] := hD
          have h_11 : r_10 = ztax f rt fr p k := h_11
          subst h_11
          refine lv_goto (tgt := 74) hx hb dX4_fits_70 (by decide) ?_
          refine lv_icmp_eq (tgt := 79) hx hb dX4_fits_74 (by decide) (fun c_12 => ?_) (fun c_12 => ?_)
          · have c_12 : (pd i) = (ztax f rt fr p k) := c_12
            refine lv_iinc (v := nI (i + 1)) (lv' := [(5, .int (nI (i + 1))), (7, .int (nI 1)), (6, .int (nI p)), (0, .ref z), (1, .ref r), (2, .ref a), (3, .int (nI k)), (4, .int (nI w))]) hx hb dX4_fits_79 hl (k := 2) rfl (z_inc _ 1) (by decide) rfl (fun ls hl => ?_)
            refine lv_goto (tgt := 3) hx hb dX4_fits_82 (by decide) ?_
            have hl : lv_has ls 8 [(5, .int (nI (i + 1))), (0, .ref z), (1, .ref r), (2, .ref a), (3, .int (nI k)), (4, .int (nI w))] := lv_sub hl [0, 3, 4, 5, 6, 7] rfl
            exact ih_1 _ _ _ (by omega) ⟨hP, hD, hS, hl, (by first | exact zfit_s (by assumption) (zfi_n (by assumption)) | exact zfit_s (by assumption) (by rw [zfi_p hw hp (by omega)]; simp [*]))⟩
          · have c_12 : ¬ ((pd i) = (ztax f rt fr p k)) := c_12
            have hz := zfit_false (c := cr) (show zfi pw pd f rt fr n k w i = false by rw [zfi_p hw hp (by omega)]; simp [*]) (by omega)
            refine lv_iconst (v := nI 0) hx hb dX4_fits_77 (by decide) ?_
            exact z_zret Z () (by decide) (by rw [hz]; rfl) hP hS dX4_fits_78
    · have c_5 := zb0 c_5
      refine lv_goto (tgt := 79) hx hb dX4_fits_30 (by decide) ?_
      refine lv_iinc (v := nI (i + 1)) (lv' := [(5, .int (nI (i + 1))), (6, .int (pw i)), (0, .ref z), (1, .ref r), (2, .ref a), (3, .int (nI k)), (4, .int (nI w))]) hx hb dX4_fits_79 hl (k := 1) rfl (z_inc _ 1) (by decide) rfl (fun ls hl => ?_)
      refine lv_goto (tgt := 3) hx hb dX4_fits_82 (by decide) ?_
      have hl : lv_has ls 8 [(5, .int (nI (i + 1))), (0, .ref z), (1, .ref r), (2, .ref a), (3, .int (nI k)), (4, .int (nI w))] := lv_sub hl [0, 2, 3, 4, 5, 6] rfl
      exact ih_1 _ _ _ (by omega) ⟨hP, hD, hS, hl, (by first | exact zfit_s (by assumption) (zfi_n (by assumption)) | exact zfit_s (by assumption) (by rw [zfi_p hw hp (by omega)]; simp [*]))⟩

theorem dX4_readTales_0 : decode cX4_readTales 0 = .ok (.iconst 0, 1) := by decide +kernel
theorem dX4_readTales_1 : decode cX4_readTales 1 = .ok (.istore_n 3, 1) := by decide +kernel
theorem dX4_readTales_2 : decode cX4_readTales 2 = .ok (.iconst 0, 1) := by decide +kernel
theorem dX4_readTales_3 : decode cX4_readTales 3 = .ok (.istore 4, 2) := by decide +kernel
theorem dX4_readTales_5 : decode cX4_readTales 5 = .ok (.iload 4, 2) := by decide +kernel
theorem dX4_readTales_7 : decode cX4_readTales 7 = .ok (.aload_n 1, 1) := by decide +kernel
theorem dX4_readTales_8 : decode cX4_readTales 8 = .ok (.getfield 31, 3) := by decide +kernel
theorem dX4_readTales_11 : decode cX4_readTales 11 = .ok (.if_icmp .ge 25, 3) := by decide +kernel
theorem dX4_readTales_14 : decode cX4_readTales 14 = .ok (.aload_n 2, 1) := by decide +kernel
theorem dX4_readTales_15 : decode cX4_readTales 15 = .ok (.iload 4, 2) := by decide +kernel
theorem dX4_readTales_17 : decode cX4_readTales 17 = .ok (.invokevirtual 36, 3) := by decide +kernel
theorem dX4_readTales_20 : decode cX4_readTales 20 = .ok (.ifCond .eq 10, 3) := by decide +kernel
theorem dX4_readTales_23 : decode cX4_readTales 23 = .ok (.iload_n 3, 1) := by decide +kernel
theorem dX4_readTales_24 : decode cX4_readTales 24 = .ok (.iconst 1, 1) := by decide +kernel
theorem dX4_readTales_25 : decode cX4_readTales 25 = .ok (.iload 4, 2) := by decide +kernel
theorem dX4_readTales_27 : decode cX4_readTales 27 = .ok (.ishl, 1) := by decide +kernel
theorem dX4_readTales_28 : decode cX4_readTales 28 = .ok (.ior, 1) := by decide +kernel
theorem dX4_readTales_29 : decode cX4_readTales 29 = .ok (.istore_n 3, 1) := by decide +kernel
theorem dX4_readTales_30 : decode cX4_readTales 30 = .ok (.iinc 4 1, 3) := by decide +kernel
theorem dX4_readTales_33 : decode cX4_readTales 33 = .ok (.goto (-28), 3) := by decide +kernel
theorem dX4_readTales_36 : decode cX4_readTales 36 = .ok (.aload_n 0, 1) := by decide +kernel
theorem dX4_readTales_37 : decode cX4_readTales 37 = .ok (.iconst 0, 1) := by decide +kernel
theorem dX4_readTales_38 : decode cX4_readTales 38 = .ok (.putfield 22, 3) := by decide +kernel
theorem dX4_readTales_41 : decode cX4_readTales 41 = .ok (.aload_n 0, 1) := by decide +kernel
theorem dX4_readTales_42 : decode cX4_readTales 42 = .ok (.iconst 0, 1) := by decide +kernel
theorem dX4_readTales_43 : decode cX4_readTales 43 = .ok (.putfield 25, 3) := by decide +kernel
theorem dX4_readTales_46 : decode cX4_readTales 46 = .ok (.aload_n 0, 1) := by decide +kernel
theorem dX4_readTales_47 : decode cX4_readTales 47 = .ok (.iload_n 3, 1) := by decide +kernel
theorem dX4_readTales_48 : decode cX4_readTales 48 = .ok (.putfield 28, 3) := by decide +kernel
theorem dX4_readTales_51 : decode cX4_readTales 51 = .ok (.iconst 0, 1) := by decide +kernel
theorem dX4_readTales_52 : decode cX4_readTales 52 = .ok (.istore 4, 2) := by decide +kernel
theorem dX4_readTales_54 : decode cX4_readTales 54 = .ok (.iload 4, 2) := by decide +kernel
theorem dX4_readTales_56 : decode cX4_readTales 56 = .ok (.iconst 4, 1) := by decide +kernel
theorem dX4_readTales_57 : decode cX4_readTales 57 = .ok (.if_icmp .ge 54, 3) := by decide +kernel
theorem dX4_readTales_60 : decode cX4_readTales 60 = .ok (.iconst 0, 1) := by decide +kernel
theorem dX4_readTales_61 : decode cX4_readTales 61 = .ok (.istore 5, 2) := by decide +kernel
theorem dX4_readTales_63 : decode cX4_readTales 63 = .ok (.iload 5, 2) := by decide +kernel
theorem dX4_readTales_65 : decode cX4_readTales 65 = .ok (.iload_n 3, 1) := by decide +kernel
theorem dX4_readTales_66 : decode cX4_readTales 66 = .ok (.if_icmp .gt 39, 3) := by decide +kernel
theorem dX4_readTales_69 : decode cX4_readTales 69 = .ok (.iload 5, 2) := by decide +kernel
theorem dX4_readTales_71 : decode cX4_readTales 71 = .ok (.iload_n 3, 1) := by decide +kernel
theorem dX4_readTales_72 : decode cX4_readTales 72 = .ok (.iconst (-1), 1) := by decide +kernel
theorem dX4_readTales_73 : decode cX4_readTales 73 = .ok (.ixor, 1) := by decide +kernel
theorem dX4_readTales_74 : decode cX4_readTales 74 = .ok (.iand, 1) := by decide +kernel
theorem dX4_readTales_75 : decode cX4_readTales 75 = .ok (.ifCond .ne 24, 3) := by decide +kernel
theorem dX4_readTales_78 : decode cX4_readTales 78 = .ok (.aload_n 0, 1) := by decide +kernel
theorem dX4_readTales_79 : decode cX4_readTales 79 = .ok (.aload_n 1, 1) := by decide +kernel
theorem dX4_readTales_80 : decode cX4_readTales 80 = .ok (.aload_n 2, 1) := by decide +kernel
theorem dX4_readTales_81 : decode cX4_readTales 81 = .ok (.iload 4, 2) := by decide +kernel
theorem dX4_readTales_83 : decode cX4_readTales 83 = .ok (.iload 5, 2) := by decide +kernel
theorem dX4_readTales_85 : decode cX4_readTales 85 = .ok (.invokevirtual 42, 3) := by decide +kernel
theorem dX4_readTales_88 : decode cX4_readTales 88 = .ok (.ifCond .eq 11, 3) := by decide +kernel
theorem dX4_readTales_91 : decode cX4_readTales 91 = .ok (.aload_n 0, 1) := by decide +kernel
theorem dX4_readTales_92 : decode cX4_readTales 92 = .ok (.iload 4, 2) := by decide +kernel
theorem dX4_readTales_94 : decode cX4_readTales 94 = .ok (.iload 5, 2) := by decide +kernel
theorem dX4_readTales_96 : decode cX4_readTales 96 = .ok (.invokevirtual 46, 3) := by decide +kernel
theorem dX4_readTales_99 : decode cX4_readTales 99 = .ok (.iinc 5 1, 3) := by decide +kernel
theorem dX4_readTales_102 : decode cX4_readTales 102 = .ok (.goto (-39), 3) := by decide +kernel
theorem dX4_readTales_105 : decode cX4_readTales 105 = .ok (.iinc 4 1, 3) := by decide +kernel
theorem dX4_readTales_108 : decode cX4_readTales 108 = .ok (.goto (-54), 3) := by decide +kernel
theorem dX4_readTales_111 : decode cX4_readTales 111 = .ok (.return_, 1) := by decide +kernel
theorem zd_X4_readTales : yX4_readTales.cls ≠ "java/lang/invoke/MethodHandle" ∧ yX4_readTales.cls ≠ "java/lang/invoke/VarHandle" ∧ (parseMethodDescriptor yX4_readTales.desc).map (fun d => d.parameters.length) = some 2 := by decide +kernel
set_option maxHeartbeats 4000000 in
set_option maxRecDepth 100000 in
theorem zc_X4_readTales (l : Launch) (D : va_G) (cI cZ : ClassId) (z : Nat) (zp : Nat) (zd : Nat) (cr : Nat) (ft : Int32) (kd : Int32) (su : Int32) (pw : Nat → Int32) (pd : Nat → Int32) (r : Nat) (ro : Nat) (rn : Nat) (rr : Nat) (rt : Int32) (fr : Int32) (pr : Int32) (n : Nat) (m : Nat) (a : Nat) (b : Nat) (f : Nat → Int32) (hcr : cr ≤ 6) (hn : n ≤ 5) : zV l yX4_readTales cX4_readTales 6 4 88 D cI cZ [.ref z, .ref r, .ref a] [(z, .inr (4, [.ref zp, .ref zd, .int (nI cr), .int ft, .int kd, .int su])), (zp, .inl (cI, 6, .inl pw)), (zd, .inl (cI, 6, .inl pd)), (r, .inr (3, [.ref ro, .ref rn, .ref rr, .int rt, .int fr, .int pr, .int (nI n), .int (nI m)])), (a, .inr (6, [.ref b])), (b, .inl (cI, 36, .inl f))] (fun (u : Unit) => True) (fun (u : Unit) => [(z, .inr (4, [.ref zp, .ref zd, .int (nI cr), .int ((ztal pw pd f rt fr n cr (zopN f n)).1), .int ((ztal pw pd f rt fr n cr (zopN f n)).2.1), .int ((ztal pw pd f rt fr n cr (zopN f n)).2.2)])), (zp, .inl (cI, 6, .inl pw)), (zd, .inl (cI, 6, .inl pd)), (r, .inr (3, [.ref ro, .ref rn, .ref rr, .int rt, .int fr, .int pr, .int (nI n), .int (nI m)])), (a, .inr (6, [.ref b])), (b, .inl (cI, 36, .inl f))]) := by
  refine zV_of (by decide) (Nat.le_of_ble_eq_true rfl) ?_
  intro pP eE sS mM aA bB mT cC A ls Z hP hD hS hl
  have hx := Z.1
  have hb := Z.2.1
  have hown := Z.2.2.2.2.2.1
  have hts := Z.2.2.2.2.1
  have Z : zAt pP sS mM aA mT cC D cI cZ A "SurpriseTax$Rolls" cX4_readTales 6 none := Z
  have hl : lv_has ls 6 [(0, .ref z), (1, .ref r), (2, .ref a)] := hl
  obtain ⟨H, hH⟩ : ∃ H, H = sS.heap := ⟨_, rfl⟩
  have hP : va_P D vwCl [(z, .inr (4, [.ref zp, .ref zd, .int (nI cr), .int ft, .int kd, .int su])), (zp, .inl (cI, 6, .inl pw)), (zd, .inl (cI, 6, .inl pd)), (r, .inr (3, [.ref ro, .ref rn, .ref rr, .int rt, .int fr, .int pr, .int (nI n), .int (nI m)])), (a, .inr (6, [.ref b])), (b, .inl (cI, 36, .inl f))] H := by rw [hH]; exact hP
  have hS : va_S A sS.heap H [] := by rw [hH]; exact hS
  rw [← hH]
  clear hH
  obtain ⟨locs, hlo⟩ : ∃ q : List Loc, q = [] := ⟨_, rfl⟩
  rw [← hlo] at hS ⊢
  clear hlo
  refine lv_iconst (v := nI 0) hx hb dX4_readTales_0 (by decide) ?_
  refine lv_istore_n (lv' := [(3, .int (nI 0)), (0, .ref z), (1, .ref r), (2, .ref a)]) hx hb dX4_readTales_1 rfl hl (by decide) rfl (fun ls hl => ?_)
  refine lv_iconst (v := nI 0) hx hb dX4_readTales_2 (by decide) ?_
  refine lv_istore (lv' := [(4, .int (nI 0)), (3, .int (nI 0)), (0, .ref z), (1, .ref r), (2, .ref a)]) hx hb dX4_readTales_3 hl (by decide) rfl (fun ls hl => ?_)
  have hl : lv_has ls 6 [(4, .int (nI 0)), (3, .int (nI 0)), (0, .ref z), (1, .ref r), (2, .ref a)] := lv_sub hl [0, 1, 2, 3, 4] rfl
  have e_2 : nI 0 = zop f 0 := by (first | rfl | (simp [zop]; done) | (simp_all [zop]; done))
  have hl : lv_has ls 6 [(4, .int (nI 0)), (3, .int (zop f 0)), (0, .ref z), (1, .ref r), (2, .ref a)] := Eq.subst (motive := fun zz_ => lv_has ls 6 [(4, .int (nI 0)), (3, .int zz_), (0, .ref z), (1, .ref r), (2, .ref a)]) e_2 hl
  refine z_loop (fun i H locs ls => va_P D vwCl [(z, .inr (4, [.ref zp, .ref zd, .int (nI cr), .int ft, .int kd, .int su])), (zp, .inl (cI, 6, .inl pw)), (zd, .inl (cI, 6, .inl pd)), (r, .inr (3, [.ref ro, .ref rn, .ref rr, .int rt, .int fr, .int pr, .int (nI n), .int (nI m)])), (a, .inr (6, [.ref b])), (b, .inl (cI, 36, .inl f))] H ∧ va_D A [(z, .inr (4, [.ref zp, .ref zd, .int (nI cr), .int ft, .int kd, .int su])), (zp, .inl (cI, 6, .inl pw)), (zd, .inl (cI, 6, .inl pd)), (r, .inr (3, [.ref ro, .ref rn, .ref rr, .int rt, .int fr, .int pr, .int (nI n), .int (nI m)])), (a, .inr (6, [.ref b])), (b, .inl (cI, 36, .inl f))] ∧ va_S A sS.heap H locs ∧ lv_has ls 6 [(4, .int (nI i)), (3, .int (zop f i)), (0, .ref z), (1, .ref r), (2, .ref a)]) (n) (lo := 0) (by omega) ⟨hP, hD, hS, hl⟩ (fun i hi_i ih_1 H locs ls hI => ?_)
  obtain ⟨hP, hD, hS, hl⟩ := hI
  have hP : va_P D vwCl [(z, .inr (4, [.ref zp, .ref zd, .int (nI cr), .int ft, .int kd, .int su])), (zp, .inl (cI, 6, .inl pw)), (zd, .inl (cI, 6, .inl pd)), (r, .inr (3, [.ref ro, .ref rn, .ref rr, .int rt, .int fr, .int pr, .int (nI n), .int (nI m)])), (a, .inr (6, [.ref b])), (b, .inl (cI, 36, .inl f))] H := hP
  have hD : va_D A [(z, .inr (4, [.ref zp, .ref zd, .int (nI cr), .int ft, .int kd, .int su])), (zp, .inl (cI, 6, .inl pw)), (zd, .inl (cI, 6, .inl pd)), (r, .inr (3, [.ref ro, .ref rn, .ref rr, .int rt, .int fr, .int pr, .int (nI n), .int (nI m)])), (a, .inr (6, [.ref b])), (b, .inl (cI, 36, .inl f))] := hD
  have hl : lv_has ls 6 [(4, .int (nI i)), (3, .int (zop f i)), (0, .ref z), (1, .ref r), (2, .ref a)] := hl
  refine lv_iload hx hb dX4_readTales_5 (lv_at hl 0 rfl) ?_
  refine lv_aload_n hx hb dX4_readTales_7 rfl (lv_at hl 3 rfl) ?_
  refine z_getN (ci := 3) (v := .int (nI n)) Z zin3 hP 3 rfl rfl 6 (by decide) zn20 rfl rfl dX4_readTales_8 ?_
  refine lv_icmp_ge (tgt := 36) hx hb dX4_readTales_11 (by decide) (fun c_3 => ?_) (fun c_3 => ?_)
  · have c_3 := zle (i := n) (j := i) (by omega) (by omega) c_3
    have hE_ : n = i := by omega
    subst hE_
    have hE : zop f n = nI (zopN f n) := zop_nat f n hn
    have hl : lv_has ls 6 [(4, .int (nI n)), (3, .int (nI (zopN f n))), (0, .ref z), (1, .ref r), (2, .ref a)] := Eq.subst (motive := fun zz_ => lv_has ls 6 [(4, .int (nI n)), (3, .int zz_), (0, .ref z), (1, .ref r), (2, .ref a)]) hE hl
    have hzo := zopN_lt f n
    have hzo2 : zopN f n < 32 := Nat.lt_of_lt_of_le hzo (Nat.pow_le_pow_right (by decide) hn)
    refine lv_aload_n hx hb dX4_readTales_36 rfl (lv_at hl 2 rfl) ?_
    refine lv_iconst (v := nI 0) hx hb dX4_readTales_37 (by decide) ?_
    refine z_put (ci := 4) (v := .int (nI 0)) Z zin4 tyX4 tyX4_ok nmX4 hP hD hS 0 rfl rfl 3 (by decide) zm141 rfl rfl rfl rfl (Nat.le_of_ble_eq_true rfl) dX4_readTales_38 (fun H locs hP hD hS => ?_)
    have hP : va_P D vwCl [(z, .inr (4, [.ref zp, .ref zd, .int (nI cr), .int (nI 0), .int kd, .int su])), (zp, .inl (cI, 6, .inl pw)), (zd, .inl (cI, 6, .inl pd)), (r, .inr (3, [.ref ro, .ref rn, .ref rr, .int rt, .int fr, .int pr, .int (nI n), .int (nI m)])), (a, .inr (6, [.ref b])), (b, .inl (cI, 36, .inl f))] H := hP
    have hD : va_D A [(z, .inr (4, [.ref zp, .ref zd, .int (nI cr), .int (nI 0), .int kd, .int su])), (zp, .inl (cI, 6, .inl pw)), (zd, .inl (cI, 6, .inl pd)), (r, .inr (3, [.ref ro, .ref rn, .ref rr, .int rt, .int fr, .int pr, .int (nI n), .int (nI m)])), (a, .inr (6, [.ref b])), (b, .inl (cI, 36, .inl f))] := hD
    refine lv_aload_n hx hb dX4_readTales_41 rfl (lv_at hl 2 rfl) ?_
    refine lv_iconst (v := nI 0) hx hb dX4_readTales_42 (by decide) ?_
    refine z_put (ci := 4) (v := .int (nI 0)) Z zin4 tyX4 tyX4_ok nmX4 hP hD hS 0 rfl rfl 4 (by decide) zm142 rfl rfl rfl rfl (Nat.le_of_ble_eq_true rfl) dX4_readTales_43 (fun H locs hP hD hS => ?_)
    have hP : va_P D vwCl [(z, .inr (4, [.ref zp, .ref zd, .int (nI cr), .int (nI 0), .int (nI 0), .int su])), (zp, .inl (cI, 6, .inl pw)), (zd, .inl (cI, 6, .inl pd)), (r, .inr (3, [.ref ro, .ref rn, .ref rr, .int rt, .int fr, .int pr, .int (nI n), .int (nI m)])), (a, .inr (6, [.ref b])), (b, .inl (cI, 36, .inl f))] H := hP
    have hD : va_D A [(z, .inr (4, [.ref zp, .ref zd, .int (nI cr), .int (nI 0), .int (nI 0), .int su])), (zp, .inl (cI, 6, .inl pw)), (zd, .inl (cI, 6, .inl pd)), (r, .inr (3, [.ref ro, .ref rn, .ref rr, .int rt, .int fr, .int pr, .int (nI n), .int (nI m)])), (a, .inr (6, [.ref b])), (b, .inl (cI, 36, .inl f))] := hD
    refine lv_aload_n hx hb dX4_readTales_46 rfl (lv_at hl 2 rfl) ?_
    refine lv_iload_n hx hb dX4_readTales_47 rfl (lv_at hl 1 rfl) ?_
    refine z_put (ci := 4) (v := .int (nI (zopN f n))) Z zin4 tyX4 tyX4_ok nmX4 hP hD hS 0 rfl rfl 5 (by decide) zm143 rfl rfl rfl rfl (Nat.le_of_ble_eq_true rfl) dX4_readTales_48 (fun H locs hP hD hS => ?_)
    have hP : va_P D vwCl [(z, .inr (4, [.ref zp, .ref zd, .int (nI cr), .int (nI 0), .int (nI 0), .int (nI (zopN f n))])), (zp, .inl (cI, 6, .inl pw)), (zd, .inl (cI, 6, .inl pd)), (r, .inr (3, [.ref ro, .ref rn, .ref rr, .int rt, .int fr, .int pr, .int (nI n), .int (nI m)])), (a, .inr (6, [.ref b])), (b, .inl (cI, 36, .inl f))] H := hP
    have hD : va_D A [(z, .inr (4, [.ref zp, .ref zd, .int (nI cr), .int (nI 0), .int (nI 0), .int (nI (zopN f n))])), (zp, .inl (cI, 6, .inl pw)), (zd, .inl (cI, 6, .inl pd)), (r, .inr (3, [.ref ro, .ref rn, .ref rr, .int rt, .int fr, .int pr, .int (nI n), .int (nI m)])), (a, .inr (6, [.ref b])), (b, .inl (cI, 36, .inl f))] := hD
    refine lv_iconst (v := nI 0) hx hb dX4_readTales_51 (by decide) ?_
    refine lv_istore (lv' := [(4, .int (nI 0)), (3, .int (nI (zopN f n))), (0, .ref z), (1, .ref r), (2, .ref a)]) hx hb dX4_readTales_52 hl (by decide) rfl (fun ls hl => ?_)
    have e_5 : nI 0 = (ztk (zokc pw pd f rt fr n cr (zopN f n)) (zopN f n) (0, 0, nI (zopN f n)) 0).1 := by rfl
    have hP : va_P D vwCl [(z, .inr (4, [.ref zp, .ref zd, .int (nI cr), .int ((ztk (zokc pw pd f rt fr n cr (zopN f n)) (zopN f n) (0, 0, nI (zopN f n)) 0).1), .int (nI 0), .int (nI (zopN f n))])), (zp, .inl (cI, 6, .inl pw)), (zd, .inl (cI, 6, .inl pd)), (r, .inr (3, [.ref ro, .ref rn, .ref rr, .int rt, .int fr, .int pr, .int (nI n), .int (nI m)])), (a, .inr (6, [.ref b])), (b, .inl (cI, 36, .inl f))] H := Eq.subst (motive := fun zz_ => va_P D vwCl [(z, .inr (4, [.ref zp, .ref zd, .int (nI cr), .int zz_, .int (nI 0), .int (nI (zopN f n))])), (zp, .inl (cI, 6, .inl pw)), (zd, .inl (cI, 6, .inl pd)), (r, .inr (3, [.ref ro, .ref rn, .ref rr, .int rt, .int fr, .int pr, .int (nI n), .int (nI m)])), (a, .inr (6, [.ref b])), (b, .inl (cI, 36, .inl f))] H) e_5 hP
    have e_6 : nI 0 = (ztk (zokc pw pd f rt fr n cr (zopN f n)) (zopN f n) (0, 0, nI (zopN f n)) 0).2.1 := by rfl
    have hP : va_P D vwCl [(z, .inr (4, [.ref zp, .ref zd, .int (nI cr), .int ((ztk (zokc pw pd f rt fr n cr (zopN f n)) (zopN f n) (0, 0, nI (zopN f n)) 0).1), .int ((ztk (zokc pw pd f rt fr n cr (zopN f n)) (zopN f n) (0, 0, nI (zopN f n)) 0).2.1), .int (nI (zopN f n))])), (zp, .inl (cI, 6, .inl pw)), (zd, .inl (cI, 6, .inl pd)), (r, .inr (3, [.ref ro, .ref rn, .ref rr, .int rt, .int fr, .int pr, .int (nI n), .int (nI m)])), (a, .inr (6, [.ref b])), (b, .inl (cI, 36, .inl f))] H := Eq.subst (motive := fun zz_ => va_P D vwCl [(z, .inr (4, [.ref zp, .ref zd, .int (nI cr), .int ((ztk (zokc pw pd f rt fr n cr (zopN f n)) (zopN f n) (0, 0, nI (zopN f n)) 0).1), .int zz_, .int (nI (zopN f n))])), (zp, .inl (cI, 6, .inl pw)), (zd, .inl (cI, 6, .inl pd)), (r, .inr (3, [.ref ro, .ref rn, .ref rr, .int rt, .int fr, .int pr, .int (nI n), .int (nI m)])), (a, .inr (6, [.ref b])), (b, .inl (cI, 36, .inl f))] H) e_6 hP
    have e_7 : nI (zopN f n) = (ztk (zokc pw pd f rt fr n cr (zopN f n)) (zopN f n) (0, 0, nI (zopN f n)) 0).2.2 := by rfl
    have hP : va_P D vwCl [(z, .inr (4, [.ref zp, .ref zd, .int (nI cr), .int ((ztk (zokc pw pd f rt fr n cr (zopN f n)) (zopN f n) (0, 0, nI (zopN f n)) 0).1), .int ((ztk (zokc pw pd f rt fr n cr (zopN f n)) (zopN f n) (0, 0, nI (zopN f n)) 0).2.1), .int ((ztk (zokc pw pd f rt fr n cr (zopN f n)) (zopN f n) (0, 0, nI (zopN f n)) 0).2.2)])), (zp, .inl (cI, 6, .inl pw)), (zd, .inl (cI, 6, .inl pd)), (r, .inr (3, [.ref ro, .ref rn, .ref rr, .int rt, .int fr, .int pr, .int (nI n), .int (nI m)])), (a, .inr (6, [.ref b])), (b, .inl (cI, 36, .inl f))] H := Eq.subst (motive := fun zz_ => va_P D vwCl [(z, .inr (4, [.ref zp, .ref zd, .int (nI cr), .int ((ztk (zokc pw pd f rt fr n cr (zopN f n)) (zopN f n) (0, 0, nI (zopN f n)) 0).1), .int ((ztk (zokc pw pd f rt fr n cr (zopN f n)) (zopN f n) (0, 0, nI (zopN f n)) 0).2.1), .int zz_])), (zp, .inl (cI, 6, .inl pw)), (zd, .inl (cI, 6, .inl pd)), (r, .inr (3, [.ref ro, .ref rn, .ref rr, .int rt, .int fr, .int pr, .int (nI n), .int (nI m)])), (a, .inr (6, [.ref b])), (b, .inl (cI, 36, .inl f))] H) e_7 hP
    have hD : va_D A [(z, .inr (4, [.ref zp, .ref zd, .int (nI cr), .int ((ztk (zokc pw pd f rt fr n cr (zopN f n)) (zopN f n) (0, 0, nI (zopN f n)) 0).1), .int ((ztk (zokc pw pd f rt fr n cr (zopN f n)) (zopN f n) (0, 0, nI (zopN f n)) 0).2.1), .int ((ztk (zokc pw pd f rt fr n cr (zopN f n)) (zopN f n) (0, 0, nI (zopN f n)) 0).2.2)])), (zp, .inl (cI, 6, .inl pw)), (zd, .inl (cI, 6, .inl pd)), (r, .inr (3, [.ref ro, .ref rn, .ref rr, .int rt, .int fr, .int pr, .int (nI n), .int (nI m)])), (a, .inr (6, [.ref b])), (b, .inl (cI, 36, .inl f))] := zD_of hD rfl
    have hl : lv_has ls 6 [(4, .int (nI 0)), (3, .int (nI (zopN f n))), (0, .ref z), (1, .ref r), (2, .ref a)] := lv_sub hl [0, 1, 2, 3, 4] rfl
    refine z_loop (fun k H locs ls => va_P D vwCl [(z, .inr (4, [.ref zp, .ref zd, .int (nI cr), .int ((ztk (zokc pw pd f rt fr n cr (zopN f n)) (zopN f n) (0, 0, nI (zopN f n)) k).1), .int ((ztk (zokc pw pd f rt fr n cr (zopN f n)) (zopN f n) (0, 0, nI (zopN f n)) k).2.1), .int ((ztk (zokc pw pd f rt fr n cr (zopN f n)) (zopN f n) (0, 0, nI (zopN f n)) k).2.2)])), (zp, .inl (cI, 6, .inl pw)), (zd, .inl (cI, 6, .inl pd)), (r, .inr (3, [.ref ro, .ref rn, .ref rr, .int rt, .int fr, .int pr, .int (nI n), .int (nI m)])), (a, .inr (6, [.ref b])), (b, .inl (cI, 36, .inl f))] H ∧ va_D A [(z, .inr (4, [.ref zp, .ref zd, .int (nI cr), .int ((ztk (zokc pw pd f rt fr n cr (zopN f n)) (zopN f n) (0, 0, nI (zopN f n)) k).1), .int ((ztk (zokc pw pd f rt fr n cr (zopN f n)) (zopN f n) (0, 0, nI (zopN f n)) k).2.1), .int ((ztk (zokc pw pd f rt fr n cr (zopN f n)) (zopN f n) (0, 0, nI (zopN f n)) k).2.2)])), (zp, .inl (cI, 6, .inl pw)), (zd, .inl (cI, 6, .inl pd)), (r, .inr (3, [.ref ro, .ref rn, .ref rr, .int rt, .int fr, .int pr, .int (nI n), .int (nI m)])), (a, .inr (6, [.ref b])), (b, .inl (cI, 36, .inl f))] ∧ va_S A sS.heap H locs ∧ lv_has ls 6 [(4, .int (nI k)), (3, .int (nI (zopN f n))), (0, .ref z), (1, .ref r), (2, .ref a)]) (4) (lo := 0) (by omega) ⟨hP, hD, hS, hl⟩ (fun k hi_k ih_4 H locs ls hI => ?_)
    obtain ⟨hP, hD, hS, hl⟩ := hI
    have hP : va_P D vwCl [(z, .inr (4, [.ref zp, .ref zd, .int (nI cr), .int ((ztk (zokc pw pd f rt fr n cr (zopN f n)) (zopN f n) (0, 0, nI (zopN f n)) k).1), .int ((ztk (zokc pw pd f rt fr n cr (zopN f n)) (zopN f n) (0, 0, nI (zopN f n)) k).2.1), .int ((ztk (zokc pw pd f rt fr n cr (zopN f n)) (zopN f n) (0, 0, nI (zopN f n)) k).2.2)])), (zp, .inl (cI, 6, .inl pw)), (zd, .inl (cI, 6, .inl pd)), (r, .inr (3, [.ref ro, .ref rn, .ref rr, .int rt, .int fr, .int pr, .int (nI n), .int (nI m)])), (a, .inr (6, [.ref b])), (b, .inl (cI, 36, .inl f))] H := hP
    have hD : va_D A [(z, .inr (4, [.ref zp, .ref zd, .int (nI cr), .int ((ztk (zokc pw pd f rt fr n cr (zopN f n)) (zopN f n) (0, 0, nI (zopN f n)) k).1), .int ((ztk (zokc pw pd f rt fr n cr (zopN f n)) (zopN f n) (0, 0, nI (zopN f n)) k).2.1), .int ((ztk (zokc pw pd f rt fr n cr (zopN f n)) (zopN f n) (0, 0, nI (zopN f n)) k).2.2)])), (zp, .inl (cI, 6, .inl pw)), (zd, .inl (cI, 6, .inl pd)), (r, .inr (3, [.ref ro, .ref rn, .ref rr, .int rt, .int fr, .int pr, .int (nI n), .int (nI m)])), (a, .inr (6, [.ref b])), (b, .inl (cI, 36, .inl f))] := hD
    have hl : lv_has ls 6 [(4, .int (nI k)), (3, .int (nI (zopN f n))), (0, .ref z), (1, .ref r), (2, .ref a)] := hl
    refine lv_iload hx hb dX4_readTales_54 (lv_at hl 0 rfl) ?_
    refine lv_iconst (v := nI 4) hx hb dX4_readTales_56 (by decide) ?_
    refine lv_icmp_ge (tgt := 111) hx hb dX4_readTales_57 (by decide) (fun c_8 => ?_) (fun c_8 => ?_)
    · have c_8 := zle (i := 4) (j := k) (by decide) (by omega) c_8
      have hE_ : 4 = k := by omega
      subst hE_
      have e_9 : (ztk (zokc pw pd f rt fr n cr (zopN f n)) (zopN f n) (0, 0, nI (zopN f n)) 4).1 = (ztal pw pd f rt fr n cr (zopN f n)).1 := by (first | rfl | (simp [c_3, c_8]; done) | (simp_all []; done))
      have hP : va_P D vwCl [(z, .inr (4, [.ref zp, .ref zd, .int (nI cr), .int ((ztal pw pd f rt fr n cr (zopN f n)).1), .int ((ztk (zokc pw pd f rt fr n cr (zopN f n)) (zopN f n) (0, 0, nI (zopN f n)) 4).2.1), .int ((ztk (zokc pw pd f rt fr n cr (zopN f n)) (zopN f n) (0, 0, nI (zopN f n)) 4).2.2)])), (zp, .inl (cI, 6, .inl pw)), (zd, .inl (cI, 6, .inl pd)), (r, .inr (3, [.ref ro, .ref rn, .ref rr, .int rt, .int fr, .int pr, .int (nI n), .int (nI m)])), (a, .inr (6, [.ref b])), (b, .inl (cI, 36, .inl f))] H := Eq.subst (motive := fun zz_ => va_P D vwCl [(z, .inr (4, [.ref zp, .ref zd, .int (nI cr), .int zz_, .int ((ztk (zokc pw pd f rt fr n cr (zopN f n)) (zopN f n) (0, 0, nI (zopN f n)) 4).2.1), .int ((ztk (zokc pw pd f rt fr n cr (zopN f n)) (zopN f n) (0, 0, nI (zopN f n)) 4).2.2)])), (zp, .inl (cI, 6, .inl pw)), (zd, .inl (cI, 6, .inl pd)), (r, .inr (3, [.ref ro, .ref rn, .ref rr, .int rt, .int fr, .int pr, .int (nI n), .int (nI m)])), (a, .inr (6, [.ref b])), (b, .inl (cI, 36, .inl f))] H) e_9 hP
      have e_10 : (ztk (zokc pw pd f rt fr n cr (zopN f n)) (zopN f n) (0, 0, nI (zopN f n)) 4).2.1 = (ztal pw pd f rt fr n cr (zopN f n)).2.1 := by (first | rfl | (simp [c_3, c_8]; done) | (simp_all []; done))
      have hP : va_P D vwCl [(z, .inr (4, [.ref zp, .ref zd, .int (nI cr), .int ((ztal pw pd f rt fr n cr (zopN f n)).1), .int ((ztal pw pd f rt fr n cr (zopN f n)).2.1), .int ((ztk (zokc pw pd f rt fr n cr (zopN f n)) (zopN f n) (0, 0, nI (zopN f n)) 4).2.2)])), (zp, .inl (cI, 6, .inl pw)), (zd, .inl (cI, 6, .inl pd)), (r, .inr (3, [.ref ro, .ref rn, .ref rr, .int rt, .int fr, .int pr, .int (nI n), .int (nI m)])), (a, .inr (6, [.ref b])), (b, .inl (cI, 36, .inl f))] H := Eq.subst (motive := fun zz_ => va_P D vwCl [(z, .inr (4, [.ref zp, .ref zd, .int (nI cr), .int ((ztal pw pd f rt fr n cr (zopN f n)).1), .int zz_, .int ((ztk (zokc pw pd f rt fr n cr (zopN f n)) (zopN f n) (0, 0, nI (zopN f n)) 4).2.2)])), (zp, .inl (cI, 6, .inl pw)), (zd, .inl (cI, 6, .inl pd)), (r, .inr (3, [.ref ro, .ref rn, .ref rr, .int rt, .int fr, .int pr, .int (nI n), .int (nI m)])), (a, .inr (6, [.ref b])), (b, .inl (cI, 36, .inl f))] H) e_10 hP
      have e_11 : (ztk (zokc pw pd f rt fr n cr (zopN f n)) (zopN f n) (0, 0, nI (zopN f n)) 4).2.2 = (ztal pw pd f rt fr n cr (zopN f n)).2.2 := by (first | rfl | (simp [c_3, c_8]; done) | (simp_all []; done))
      have hP : va_P D vwCl [(z, .inr (4, [.ref zp, .ref zd, .int (nI cr), .int ((ztal pw pd f rt fr n cr (zopN f n)).1), .int ((ztal pw pd f rt fr n cr (zopN f n)).2.1), .int ((ztal pw pd f rt fr n cr (zopN f n)).2.2)])), (zp, .inl (cI, 6, .inl pw)), (zd, .inl (cI, 6, .inl pd)), (r, .inr (3, [.ref ro, .ref rn, .ref rr, .int rt, .int fr, .int pr, .int (nI n), .int (nI m)])), (a, .inr (6, [.ref b])), (b, .inl (cI, 36, .inl f))] H := Eq.subst (motive := fun zz_ => va_P D vwCl [(z, .inr (4, [.ref zp, .ref zd, .int (nI cr), .int ((ztal pw pd f rt fr n cr (zopN f n)).1), .int ((ztal pw pd f rt fr n cr (zopN f n)).2.1), .int zz_])), (zp, .inl (cI, 6, .inl pw)), (zd, .inl (cI, 6, .inl pd)), (r, .inr (3, [.ref ro, .ref rn, .ref rr, .int rt, .int fr, .int pr, .int (nI n), .int (nI m)])), (a, .inr (6, [.ref b])), (b, .inl (cI, 36, .inl f))] H) e_11 hP
      have hD : va_D A [(z, .inr (4, [.ref zp, .ref zd, .int (nI cr), .int ((ztal pw pd f rt fr n cr (zopN f n)).1), .int ((ztal pw pd f rt fr n cr (zopN f n)).2.1), .int ((ztal pw pd f rt fr n cr (zopN f n)).2.2)])), (zp, .inl (cI, 6, .inl pw)), (zd, .inl (cI, 6, .inl pd)), (r, .inr (3, [.ref ro, .ref rn, .ref rr, .int rt, .int fr, .int pr, .int (nI n), .int (nI m)])), (a, .inr (6, [.ref b])), (b, .inl (cI, 36, .inl f))] := zD_of hD rfl
      exact z_vret Z () trivial hP hS dX4_readTales_111
    · have c_8 := znle (i := 4) (j := k) (by decide) (by omega) c_8
      refine lv_iconst (v := nI 0) hx hb dX4_readTales_60 (by decide) ?_
      refine lv_istore (lv' := [(5, .int (nI 0)), (4, .int (nI k)), (3, .int (nI (zopN f n))), (0, .ref z), (1, .ref r), (2, .ref a)]) hx hb dX4_readTales_61 hl (by decide) rfl (fun ls hl => ?_)
      have e_13 : (ztk (zokc pw pd f rt fr n cr (zopN f n)) (zopN f n) (0, 0, nI (zopN f n)) k).1 = (ztw ((zokc pw pd f rt fr n cr (zopN f n)) k) k (ztk (zokc pw pd f rt fr n cr (zopN f n)) (zopN f n) (0, 0, nI (zopN f n)) k) 0).1 := by rfl
      have hP : va_P D vwCl [(z, .inr (4, [.ref zp, .ref zd, .int (nI cr), .int ((ztw ((zokc pw pd f rt fr n cr (zopN f n)) k) k (ztk (zokc pw pd f rt fr n cr (zopN f n)) (zopN f n) (0, 0, nI (zopN f n)) k) 0).1), .int ((ztk (zokc pw pd f rt fr n cr (zopN f n)) (zopN f n) (0, 0, nI (zopN f n)) k).2.1), .int ((ztk (zokc pw pd f rt fr n cr (zopN f n)) (zopN f n) (0, 0, nI (zopN f n)) k).2.2)])), (zp, .inl (cI, 6, .inl pw)), (zd, .inl (cI, 6, .inl pd)), (r, .inr (3, [.ref ro, .ref rn, .ref rr, .int rt, .int fr, .int pr, .int (nI n), .int (nI m)])), (a, .inr (6, [.ref b])), (b, .inl (cI, 36, .inl f))] H := Eq.subst (motive := fun zz_ => va_P D vwCl [(z, .inr (4, [.ref zp, .ref zd, .int (nI cr), .int zz_, .int ((ztk (zokc pw pd f rt fr n cr (zopN f n)) (zopN f n) (0, 0, nI (zopN f n)) k).2.1), .int ((ztk (zokc pw pd f rt fr n cr (zopN f n)) (zopN f n) (0, 0, nI (zopN f n)) k).2.2)])), (zp, .inl (cI, 6, .inl pw)), (zd, .inl (cI, 6, .inl pd)), (r, .inr (3, [.ref ro, .ref rn, .ref rr, .int rt, .int fr, .int pr, .int (nI n), .int (nI m)])), (a, .inr (6, [.ref b])), (b, .inl (cI, 36, .inl f))] H) e_13 hP
      have e_14 : (ztk (zokc pw pd f rt fr n cr (zopN f n)) (zopN f n) (0, 0, nI (zopN f n)) k).2.1 = (ztw ((zokc pw pd f rt fr n cr (zopN f n)) k) k (ztk (zokc pw pd f rt fr n cr (zopN f n)) (zopN f n) (0, 0, nI (zopN f n)) k) 0).2.1 := by rfl
      have hP : va_P D vwCl [(z, .inr (4, [.ref zp, .ref zd, .int (nI cr), .int ((ztw ((zokc pw pd f rt fr n cr (zopN f n)) k) k (ztk (zokc pw pd f rt fr n cr (zopN f n)) (zopN f n) (0, 0, nI (zopN f n)) k) 0).1), .int ((ztw ((zokc pw pd f rt fr n cr (zopN f n)) k) k (ztk (zokc pw pd f rt fr n cr (zopN f n)) (zopN f n) (0, 0, nI (zopN f n)) k) 0).2.1), .int ((ztk (zokc pw pd f rt fr n cr (zopN f n)) (zopN f n) (0, 0, nI (zopN f n)) k).2.2)])), (zp, .inl (cI, 6, .inl pw)), (zd, .inl (cI, 6, .inl pd)), (r, .inr (3, [.ref ro, .ref rn, .ref rr, .int rt, .int fr, .int pr, .int (nI n), .int (nI m)])), (a, .inr (6, [.ref b])), (b, .inl (cI, 36, .inl f))] H := Eq.subst (motive := fun zz_ => va_P D vwCl [(z, .inr (4, [.ref zp, .ref zd, .int (nI cr), .int ((ztw ((zokc pw pd f rt fr n cr (zopN f n)) k) k (ztk (zokc pw pd f rt fr n cr (zopN f n)) (zopN f n) (0, 0, nI (zopN f n)) k) 0).1), .int zz_, .int ((ztk (zokc pw pd f rt fr n cr (zopN f n)) (zopN f n) (0, 0, nI (zopN f n)) k).2.2)])), (zp, .inl (cI, 6, .inl pw)), (zd, .inl (cI, 6, .inl pd)), (r, .inr (3, [.ref ro, .ref rn, .ref rr, .int rt, .int fr, .int pr, .int (nI n), .int (nI m)])), (a, .inr (6, [.ref b])), (b, .inl (cI, 36, .inl f))] H) e_14 hP
      have e_15 : (ztk (zokc pw pd f rt fr n cr (zopN f n)) (zopN f n) (0, 0, nI (zopN f n)) k).2.2 = (ztw ((zokc pw pd f rt fr n cr (zopN f n)) k) k (ztk (zokc pw pd f rt fr n cr (zopN f n)) (zopN f n) (0, 0, nI (zopN f n)) k) 0).2.2 := by rfl
      have hP : va_P D vwCl [(z, .inr (4, [.ref zp, .ref zd, .int (nI cr), .int ((ztw ((zokc pw pd f rt fr n cr (zopN f n)) k) k (ztk (zokc pw pd f rt fr n cr (zopN f n)) (zopN f n) (0, 0, nI (zopN f n)) k) 0).1), .int ((ztw ((zokc pw pd f rt fr n cr (zopN f n)) k) k (ztk (zokc pw pd f rt fr n cr (zopN f n)) (zopN f n) (0, 0, nI (zopN f n)) k) 0).2.1), .int ((ztw ((zokc pw pd f rt fr n cr (zopN f n)) k) k (ztk (zokc pw pd f rt fr n cr (zopN f n)) (zopN f n) (0, 0, nI (zopN f n)) k) 0).2.2)])), (zp, .inl (cI, 6, .inl pw)), (zd, .inl (cI, 6, .inl pd)), (r, .inr (3, [.ref ro, .ref rn, .ref rr, .int rt, .int fr, .int pr, .int (nI n), .int (nI m)])), (a, .inr (6, [.ref b])), (b, .inl (cI, 36, .inl f))] H := Eq.subst (motive := fun zz_ => va_P D vwCl [(z, .inr (4, [.ref zp, .ref zd, .int (nI cr), .int ((ztw ((zokc pw pd f rt fr n cr (zopN f n)) k) k (ztk (zokc pw pd f rt fr n cr (zopN f n)) (zopN f n) (0, 0, nI (zopN f n)) k) 0).1), .int ((ztw ((zokc pw pd f rt fr n cr (zopN f n)) k) k (ztk (zokc pw pd f rt fr n cr (zopN f n)) (zopN f n) (0, 0, nI (zopN f n)) k) 0).2.1), .int zz_])), (zp, .inl (cI, 6, .inl pw)), (zd, .inl (cI, 6, .inl pd)), (r, .inr (3, [.ref ro, .ref rn, .ref rr, .int rt, .int fr, .int pr, .int (nI n), .int (nI m)])), (a, .inr (6, [.ref b])), (b, .inl (cI, 36, .inl f))] H) e_15 hP
      have hD : va_D A [(z, .inr (4, [.ref zp, .ref zd, .int (nI cr), .int ((ztw ((zokc pw pd f rt fr n cr (zopN f n)) k) k (ztk (zokc pw pd f rt fr n cr (zopN f n)) (zopN f n) (0, 0, nI (zopN f n)) k) 0).1), .int ((ztw ((zokc pw pd f rt fr n cr (zopN f n)) k) k (ztk (zokc pw pd f rt fr n cr (zopN f n)) (zopN f n) (0, 0, nI (zopN f n)) k) 0).2.1), .int ((ztw ((zokc pw pd f rt fr n cr (zopN f n)) k) k (ztk (zokc pw pd f rt fr n cr (zopN f n)) (zopN f n) (0, 0, nI (zopN f n)) k) 0).2.2)])), (zp, .inl (cI, 6, .inl pw)), (zd, .inl (cI, 6, .inl pd)), (r, .inr (3, [.ref ro, .ref rn, .ref rr, .int rt, .int fr, .int pr, .int (nI n), .int (nI m)])), (a, .inr (6, [.ref b])), (b, .inl (cI, 36, .inl f))] := zD_of hD rfl
      have hl : lv_has ls 6 [(5, .int (nI 0)), (4, .int (nI k)), (3, .int (nI (zopN f n))), (0, .ref z), (1, .ref r), (2, .ref a)] := lv_sub hl [0, 1, 2, 3, 4, 5] rfl
      refine z_loop (fun w H locs ls => va_P D vwCl [(z, .inr (4, [.ref zp, .ref zd, .int (nI cr), .int ((ztw ((zokc pw pd f rt fr n cr (zopN f n)) k) k (ztk (zokc pw pd f rt fr n cr (zopN f n)) (zopN f n) (0, 0, nI (zopN f n)) k) w).1), .int ((ztw ((zokc pw pd f rt fr n cr (zopN f n)) k) k (ztk (zokc pw pd f rt fr n cr (zopN f n)) (zopN f n) (0, 0, nI (zopN f n)) k) w).2.1), .int ((ztw ((zokc pw pd f rt fr n cr (zopN f n)) k) k (ztk (zokc pw pd f rt fr n cr (zopN f n)) (zopN f n) (0, 0, nI (zopN f n)) k) w).2.2)])), (zp, .inl (cI, 6, .inl pw)), (zd, .inl (cI, 6, .inl pd)), (r, .inr (3, [.ref ro, .ref rn, .ref rr, .int rt, .int fr, .int pr, .int (nI n), .int (nI m)])), (a, .inr (6, [.ref b])), (b, .inl (cI, 36, .inl f))] H ∧ va_D A [(z, .inr (4, [.ref zp, .ref zd, .int (nI cr), .int ((ztw ((zokc pw pd f rt fr n cr (zopN f n)) k) k (ztk (zokc pw pd f rt fr n cr (zopN f n)) (zopN f n) (0, 0, nI (zopN f n)) k) w).1), .int ((ztw ((zokc pw pd f rt fr n cr (zopN f n)) k) k (ztk (zokc pw pd f rt fr n cr (zopN f n)) (zopN f n) (0, 0, nI (zopN f n)) k) w).2.1), .int ((ztw ((zokc pw pd f rt fr n cr (zopN f n)) k) k (ztk (zokc pw pd f rt fr n cr (zopN f n)) (zopN f n) (0, 0, nI (zopN f n)) k) w).2.2)])), (zp, .inl (cI, 6, .inl pw)), (zd, .inl (cI, 6, .inl pd)), (r, .inr (3, [.ref ro, .ref rn, .ref rr, .int rt, .int fr, .int pr, .int (nI n), .int (nI m)])), (a, .inr (6, [.ref b])), (b, .inl (cI, 36, .inl f))] ∧ va_S A sS.heap H locs ∧ lv_has ls 6 [(5, .int (nI w)), (4, .int (nI k)), (3, .int (nI (zopN f n))), (0, .ref z), (1, .ref r), (2, .ref a)]) (zopN f n + 1) (lo := 0) (by omega) ⟨hP, hD, hS, hl⟩ (fun w hi_w ih_12 H locs ls hI => ?_)
      obtain ⟨hP, hD, hS, hl⟩ := hI
      have hP : va_P D vwCl [(z, .inr (4, [.ref zp, .ref zd, .int (nI cr), .int ((ztw ((zokc pw pd f rt fr n cr (zopN f n)) k) k (ztk (zokc pw pd f rt fr n cr (zopN f n)) (zopN f n) (0, 0, nI (zopN f n)) k) w).1), .int ((ztw ((zokc pw pd f rt fr n cr (zopN f n)) k) k (ztk (zokc pw pd f rt fr n cr (zopN f n)) (zopN f n) (0, 0, nI (zopN f n)) k) w).2.1), .int ((ztw ((zokc pw pd f rt fr n cr (zopN f n)) k) k (ztk (zokc pw pd f rt fr n cr (zopN f n)) (zopN f n) (0, 0, nI (zopN f n)) k) w).2.2)])), (zp, .inl (cI, 6, .inl pw)), (zd, .inl (cI, 6, .inl pd)), (r, .inr (3, [.ref ro, .ref rn, .ref rr, .int rt, .int fr, .int pr, .int (nI n), .int (nI m)])), (a, .inr (6, [.ref b])), (b, .inl (cI, 36, .inl f))] H := hP
      have hD : va_D A [(z, .inr (4, [.ref zp, .ref zd, .int (nI cr), .int ((ztw ((zokc pw pd f rt fr n cr (zopN f n)) k) k (ztk (zokc pw pd f rt fr n cr (zopN f n)) (zopN f n) (0, 0, nI (zopN f n)) k) w).1), .int ((ztw ((zokc pw pd f rt fr n cr (zopN f n)) k) k (ztk (zokc pw pd f rt fr n cr (zopN f n)) (zopN f n) (0, 0, nI (zopN f n)) k) w).2.1), .int ((ztw ((zokc pw pd f rt fr n cr (zopN f n)) k) k (ztk (zokc pw pd f rt fr n cr (zopN f n)) (zopN f n) (0, 0, nI (zopN f n)) k) w).2.2)])), (zp, .inl (cI, 6, .inl pw)), (zd, .inl (cI, 6, .inl pd)), (r, .inr (3, [.ref ro, .ref rn, .ref rr, .int rt, .int fr, .int pr, .int (nI n), .int (nI m)])), (a, .inr (6, [.ref b])), (b, .inl (cI, 36, .inl f))] := hD
      have hl : lv_has ls 6 [(5, .int (nI w)), (4, .int (nI k)), (3, .int (nI (zopN f n))), (0, .ref z), (1, .ref r), (2, .ref a)] := hl
      refine lv_iload hx hb dX4_readTales_63 (lv_at hl 0 rfl) ?_
      refine lv_iload_n hx hb dX4_readTales_65 rfl (lv_at hl 2 rfl) ?_
      refine lv_icmp_gt (tgt := 105) hx hb dX4_readTales_66 (by decide) (fun c_16 => ?_) (fun c_16 => ?_)
      · have c_16 := zlt (i := zopN f n) (j := w) (by omega) (by omega) c_16
        have hE_ : zopN f n + 1 = w := by omega
        subst hE_
        refine lv_iinc (v := nI (k + 1)) (lv' := [(4, .int (nI (k + 1))), (5, .int (nI (zopN f n + 1))), (3, .int (nI (zopN f n))), (0, .ref z), (1, .ref r), (2, .ref a)]) hx hb dX4_readTales_105 hl (k := 1) rfl (z_inc _ 1) (by decide) rfl (fun ls hl => ?_)
        refine lv_goto (tgt := 54) hx hb dX4_readTales_108 (by decide) ?_
        have e_17 : (ztw ((zokc pw pd f rt fr n cr (zopN f n)) k) k (ztk (zokc pw pd f rt fr n cr (zopN f n)) (zopN f n) (0, 0, nI (zopN f n)) k) (zopN f n + 1)).1 = (ztk (zokc pw pd f rt fr n cr (zopN f n)) (zopN f n) (0, 0, nI (zopN f n)) (k + 1)).1 := by rfl
        have hP : va_P D vwCl [(z, .inr (4, [.ref zp, .ref zd, .int (nI cr), .int ((ztk (zokc pw pd f rt fr n cr (zopN f n)) (zopN f n) (0, 0, nI (zopN f n)) (k + 1)).1), .int ((ztw ((zokc pw pd f rt fr n cr (zopN f n)) k) k (ztk (zokc pw pd f rt fr n cr (zopN f n)) (zopN f n) (0, 0, nI (zopN f n)) k) (zopN f n + 1)).2.1), .int ((ztw ((zokc pw pd f rt fr n cr (zopN f n)) k) k (ztk (zokc pw pd f rt fr n cr (zopN f n)) (zopN f n) (0, 0, nI (zopN f n)) k) (zopN f n + 1)).2.2)])), (zp, .inl (cI, 6, .inl pw)), (zd, .inl (cI, 6, .inl pd)), (r, .inr (3, [.ref ro, .ref rn, .ref rr, .int rt, .int fr, .int pr, .int (nI n), .int (nI m)])), (a, .inr (6, [.ref b])), (b, .inl (cI, 36, .inl f))] H := Eq.subst (motive := fun zz_ => va_P D vwCl [(z, .inr (4, [.ref zp, .ref zd, .int (nI cr), .int zz_, .int ((ztw ((zokc pw pd f rt fr n cr (zopN f n)) k) k (ztk (zokc pw pd f rt fr n cr (zopN f n)) (zopN f n) (0, 0, nI (zopN f n)) k) (zopN f n + 1)).2.1), .int ((ztw ((zokc pw pd f rt fr n cr (zopN f n)) k) k (ztk (zokc pw pd f rt fr n cr (zopN f n)) (zopN f n) (0, 0, nI (zopN f n)) k) (zopN f n + 1)).2.2)])), (zp, .inl (cI, 6, .inl pw)), (zd, .inl (cI, 6, .inl pd)), (r, .inr (3, [.ref ro, .ref rn, .ref rr, .int rt, .int fr, .int pr, .int (nI n), .int (nI m)])), (a, .inr (6, [.ref b])), (b, .inl (cI, 36, .inl f))] H) e_17 hP
        have e_18 : (ztw ((zokc pw pd f rt fr n cr (zopN f n)) k) k (ztk (zokc pw pd f rt fr n cr (zopN f n)) (zopN f n) (0, 0, nI (zopN f n)) k) (zopN f n + 1)).2.1 = (ztk (zokc pw pd f rt fr n cr (zopN f n)) (zopN f n) (0, 0, nI (zopN f n)) (k + 1)).2.1 := by rfl
        have hP : va_P D vwCl [(z, .inr (4, [.ref zp, .ref zd, .int (nI cr), .int ((ztk (zokc pw pd f rt fr n cr (zopN f n)) (zopN f n) (0, 0, nI (zopN f n)) (k + 1)).1), .int ((ztk (zokc pw pd f rt fr n cr (zopN f n)) (zopN f n) (0, 0, nI (zopN f n)) (k + 1)).2.1), .int ((ztw ((zokc pw pd f rt fr n cr (zopN f n)) k) k (ztk (zokc pw pd f rt fr n cr (zopN f n)) (zopN f n) (0, 0, nI (zopN f n)) k) (zopN f n + 1)).2.2)])), (zp, .inl (cI, 6, .inl pw)), (zd, .inl (cI, 6, .inl pd)), (r, .inr (3, [.ref ro, .ref rn, .ref rr, .int rt, .int fr, .int pr, .int (nI n), .int (nI m)])), (a, .inr (6, [.ref b])), (b, .inl (cI, 36, .inl f))] H := Eq.subst (motive := fun zz_ => va_P D vwCl [(z, .inr (4, [.ref zp, .ref zd, .int (nI cr), .int ((ztk (zokc pw pd f rt fr n cr (zopN f n)) (zopN f n) (0, 0, nI (zopN f n)) (k + 1)).1), .int zz_, .int ((ztw ((zokc pw pd f rt fr n cr (zopN f n)) k) k (ztk (zokc pw pd f rt fr n cr (zopN f n)) (zopN f n) (0, 0, nI (zopN f n)) k) (zopN f n + 1)).2.2)])), (zp, .inl (cI, 6, .inl pw)), (zd, .inl (cI, 6, .inl pd)), (r, .inr (3, [.ref ro, .ref rn, .ref rr, .int rt, .int fr, .int pr, .int (nI n), .int (nI m)])), (a, .inr (6, [.ref b])), (b, .inl (cI, 36, .inl f))] H) e_18 hP
        have e_19 : (ztw ((zokc pw pd f rt fr n cr (zopN f n)) k) k (ztk (zokc pw pd f rt fr n cr (zopN f n)) (zopN f n) (0, 0, nI (zopN f n)) k) (zopN f n + 1)).2.2 = (ztk (zokc pw pd f rt fr n cr (zopN f n)) (zopN f n) (0, 0, nI (zopN f n)) (k + 1)).2.2 := by rfl
        have hP : va_P D vwCl [(z, .inr (4, [.ref zp, .ref zd, .int (nI cr), .int ((ztk (zokc pw pd f rt fr n cr (zopN f n)) (zopN f n) (0, 0, nI (zopN f n)) (k + 1)).1), .int ((ztk (zokc pw pd f rt fr n cr (zopN f n)) (zopN f n) (0, 0, nI (zopN f n)) (k + 1)).2.1), .int ((ztk (zokc pw pd f rt fr n cr (zopN f n)) (zopN f n) (0, 0, nI (zopN f n)) (k + 1)).2.2)])), (zp, .inl (cI, 6, .inl pw)), (zd, .inl (cI, 6, .inl pd)), (r, .inr (3, [.ref ro, .ref rn, .ref rr, .int rt, .int fr, .int pr, .int (nI n), .int (nI m)])), (a, .inr (6, [.ref b])), (b, .inl (cI, 36, .inl f))] H := Eq.subst (motive := fun zz_ => va_P D vwCl [(z, .inr (4, [.ref zp, .ref zd, .int (nI cr), .int ((ztk (zokc pw pd f rt fr n cr (zopN f n)) (zopN f n) (0, 0, nI (zopN f n)) (k + 1)).1), .int ((ztk (zokc pw pd f rt fr n cr (zopN f n)) (zopN f n) (0, 0, nI (zopN f n)) (k + 1)).2.1), .int zz_])), (zp, .inl (cI, 6, .inl pw)), (zd, .inl (cI, 6, .inl pd)), (r, .inr (3, [.ref ro, .ref rn, .ref rr, .int rt, .int fr, .int pr, .int (nI n), .int (nI m)])), (a, .inr (6, [.ref b])), (b, .inl (cI, 36, .inl f))] H) e_19 hP
        have hD : va_D A [(z, .inr (4, [.ref zp, .ref zd, .int (nI cr), .int ((ztk (zokc pw pd f rt fr n cr (zopN f n)) (zopN f n) (0, 0, nI (zopN f n)) (k + 1)).1), .int ((ztk (zokc pw pd f rt fr n cr (zopN f n)) (zopN f n) (0, 0, nI (zopN f n)) (k + 1)).2.1), .int ((ztk (zokc pw pd f rt fr n cr (zopN f n)) (zopN f n) (0, 0, nI (zopN f n)) (k + 1)).2.2)])), (zp, .inl (cI, 6, .inl pw)), (zd, .inl (cI, 6, .inl pd)), (r, .inr (3, [.ref ro, .ref rn, .ref rr, .int rt, .int fr, .int pr, .int (nI n), .int (nI m)])), (a, .inr (6, [.ref b])), (b, .inl (cI, 36, .inl f))] := zD_of hD rfl
        have hl : lv_has ls 6 [(4, .int (nI (k + 1))), (3, .int (nI (zopN f n))), (0, .ref z), (1, .ref r), (2, .ref a)] := lv_sub hl [0, 2, 3, 4, 5] rfl
        exact ih_4 _ _ _ (by omega) ⟨hP, hD, hS, hl⟩
      · have c_16 := znlt (i := zopN f n) (j := w) (by omega) (by omega) c_16
        refine lv_iload hx hb dX4_readTales_69 (lv_at hl 0 rfl) ?_
        refine lv_iload_n hx hb dX4_readTales_71 rfl (lv_at hl 2 rfl) ?_
        refine lv_iconst (v := -1) hx hb dX4_readTales_72 (by decide) ?_
        refine lv_ixor hx hb dX4_readTales_73 ?_
        refine z_top (y := (nI (zopN f n)) ^^^ (-1)) rfl ?_
        refine lv_iand hx hb dX4_readTales_74 ?_
        refine z_top (y := (nI w) &&& ((nI (zopN f n)) ^^^ (-1))) rfl ?_
        refine lv_if_ne (tgt := 99) hx hb dX4_readTales_75 (by decide) (fun c_20 => ?_) (fun c_20 => ?_)
        · have c_20 : ¬ (((nI w) &&& ((nI (zopN f n)) ^^^ (-1))) = 0) := c_20
          refine lv_iinc (v := nI (w + 1)) (lv' := [(5, .int (nI (w + 1))), (4, .int (nI k)), (3, .int (nI (zopN f n))), (0, .ref z), (1, .ref r), (2, .ref a)]) hx hb dX4_readTales_99 hl (k := 0) rfl (z_inc _ 1) (by decide) rfl (fun ls hl => ?_)
          refine lv_goto (tgt := 63) hx hb dX4_readTales_102 (by decide) ?_
          have e_21 : (ztw ((zokc pw pd f rt fr n cr (zopN f n)) k) k (ztk (zokc pw pd f rt fr n cr (zopN f n)) (zopN f n) (0, 0, nI (zopN f n)) k) w).1 = (ztw ((zokc pw pd f rt fr n cr (zopN f n)) k) k (ztk (zokc pw pd f rt fr n cr (zopN f n)) (zopN f n) (0, 0, nI (zopN f n)) k) (w + 1)).1 := by first | rfl | (rw [ztw_yes (zokc_yes (by assumption) (by assumption))] <;> rfl) | (rw [ztw_no (zokc_no1 (by assumption))] <;> rfl) | (rw [ztw_no (zokc_no2 (by assumption))] <;> rfl)
          have hP : va_P D vwCl [(z, .inr (4, [.ref zp, .ref zd, .int (nI cr), .int ((ztw ((zokc pw pd f rt fr n cr (zopN f n)) k) k (ztk (zokc pw pd f rt fr n cr (zopN f n)) (zopN f n) (0, 0, nI (zopN f n)) k) (w + 1)).1), .int ((ztw ((zokc pw pd f rt fr n cr (zopN f n)) k) k (ztk (zokc pw pd f rt fr n cr (zopN f n)) (zopN f n) (0, 0, nI (zopN f n)) k) w).2.1), .int ((ztw ((zokc pw pd f rt fr n cr (zopN f n)) k) k (ztk (zokc pw pd f rt fr n cr (zopN f n)) (zopN f n) (0, 0, nI (zopN f n)) k) w).2.2)])), (zp, .inl (cI, 6, .inl pw)), (zd, .inl (cI, 6, .inl pd)), (r, .inr (3, [.ref ro, .ref rn, .ref rr, .int rt, .int fr, .int pr, .int (nI n), .int (nI m)])), (a, .inr (6, [.ref b])), (b, .inl (cI, 36, .inl f))] H := Eq.subst (motive := fun zz_ => va_P D vwCl [(z, .inr (4, [.ref zp, .ref zd, .int (nI cr), .int zz_, .int ((ztw ((zokc pw pd f rt fr n cr (zopN f n)) k) k (ztk (zokc pw pd f rt fr n cr (zopN f n)) (zopN f n) (0, 0, nI (zopN f n)) k) w).2.1), .int ((ztw ((zokc pw pd f rt fr n cr (zopN f n)) k) k (ztk (zokc pw pd f rt fr n cr (zopN f n)) (zopN f n) (0, 0, nI (zopN f n)) k) w).2.2)])), (zp, .inl (cI, 6, .inl pw)), (zd, .inl (cI, 6, .inl pd)), (r, .inr (3, [.ref ro, .ref rn, .ref rr, .int rt, .int fr, .int pr, .int (nI n), .int (nI m)])), (a, .inr (6, [.ref b])), (b, .inl (cI, 36, .inl f))] H) e_21 hP
          have e_22 : (ztw ((zokc pw pd f rt fr n cr (zopN f n)) k) k (ztk (zokc pw pd f rt fr n cr (zopN f n)) (zopN f n) (0, 0, nI (zopN f n)) k) w).2.1 = (ztw ((zokc pw pd f rt fr n cr (zopN f n)) k) k (ztk (zokc pw pd f rt fr n cr (zopN f n)) (zopN f n) (0, 0, nI (zopN f n)) k) (w + 1)).2.1 := by first | rfl | (rw [ztw_yes (zokc_yes (by assumption) (by assumption))] <;> rfl) | (rw [ztw_no (zokc_no1 (by assumption))] <;> rfl) | (rw [ztw_no (zokc_no2 (by assumption))] <;> rfl)
          have hP : va_P D vwCl [(z, .inr (4, [.ref zp, .ref zd, .int (nI cr), .int ((ztw ((zokc pw pd f rt fr n cr (zopN f n)) k) k (ztk (zokc pw pd f rt fr n cr (zopN f n)) (zopN f n) (0, 0, nI (zopN f n)) k) (w + 1)).1), .int ((ztw ((zokc pw pd f rt fr n cr (zopN f n)) k) k (ztk (zokc pw pd f rt fr n cr (zopN f n)) (zopN f n) (0, 0, nI (zopN f n)) k) (w + 1)).2.1), .int ((ztw ((zokc pw pd f rt fr n cr (zopN f n)) k) k (ztk (zokc pw pd f rt fr n cr (zopN f n)) (zopN f n) (0, 0, nI (zopN f n)) k) w).2.2)])), (zp, .inl (cI, 6, .inl pw)), (zd, .inl (cI, 6, .inl pd)), (r, .inr (3, [.ref ro, .ref rn, .ref rr, .int rt, .int fr, .int pr, .int (nI n), .int (nI m)])), (a, .inr (6, [.ref b])), (b, .inl (cI, 36, .inl f))] H := Eq.subst (motive := fun zz_ => va_P D vwCl [(z, .inr (4, [.ref zp, .ref zd, .int (nI cr), .int ((ztw ((zokc pw pd f rt fr n cr (zopN f n)) k) k (ztk (zokc pw pd f rt fr n cr (zopN f n)) (zopN f n) (0, 0, nI (zopN f n)) k) (w + 1)).1), .int zz_, .int ((ztw ((zokc pw pd f rt fr n cr (zopN f n)) k) k (ztk (zokc pw pd f rt fr n cr (zopN f n)) (zopN f n) (0, 0, nI (zopN f n)) k) w).2.2)])), (zp, .inl (cI, 6, .inl pw)), (zd, .inl (cI, 6, .inl pd)), (r, .inr (3, [.ref ro, .ref rn, .ref rr, .int rt, .int fr, .int pr, .int (nI n), .int (nI m)])), (a, .inr (6, [.ref b])), (b, .inl (cI, 36, .inl f))] H) e_22 hP
          have e_23 : (ztw ((zokc pw pd f rt fr n cr (zopN f n)) k) k (ztk (zokc pw pd f rt fr n cr (zopN f n)) (zopN f n) (0, 0, nI (zopN f n)) k) w).2.2 = (ztw ((zokc pw pd f rt fr n cr (zopN f n)) k) k (ztk (zokc pw pd f rt fr n cr (zopN f n)) (zopN f n) (0, 0, nI (zopN f n)) k) (w + 1)).2.2 := by first | rfl | (rw [ztw_yes (zokc_yes (by assumption) (by assumption))] <;> rfl) | (rw [ztw_no (zokc_no1 (by assumption))] <;> rfl) | (rw [ztw_no (zokc_no2 (by assumption))] <;> rfl)
          have hP : va_P D vwCl [(z, .inr (4, [.ref zp, .ref zd, .int (nI cr), .int ((ztw ((zokc pw pd f rt fr n cr (zopN f n)) k) k (ztk (zokc pw pd f rt fr n cr (zopN f n)) (zopN f n) (0, 0, nI (zopN f n)) k) (w + 1)).1), .int ((ztw ((zokc pw pd f rt fr n cr (zopN f n)) k) k (ztk (zokc pw pd f rt fr n cr (zopN f n)) (zopN f n) (0, 0, nI (zopN f n)) k) (w + 1)).2.1), .int ((ztw ((zokc pw pd f rt fr n cr (zopN f n)) k) k (ztk (zokc pw pd f rt fr n cr (zopN f n)) (zopN f n) (0, 0, nI (zopN f n)) k) (w + 1)).2.2)])), (zp, .inl (cI, 6, .inl pw)), (zd, .inl (cI, 6, .inl pd)), (r, .inr (3, [.ref ro, .ref rn, .ref rr, .int rt, .int fr, .int pr, .int (nI n), .int (nI m)])), (a, .inr (6, [.ref b])), (b, .inl (cI, 36, .inl f))] H := Eq.subst (motive := fun zz_ => va_P D vwCl [(z, .inr (4, [.ref zp, .ref zd, .int (nI cr), .int ((ztw ((zokc pw pd f rt fr n cr (zopN f n)) k) k (ztk (zokc pw pd f rt fr n cr (zopN f n)) (zopN f n) (0, 0, nI (zopN f n)) k) (w + 1)).1), .int ((ztw ((zokc pw pd f rt fr n cr (zopN f n)) k) k (ztk (zokc pw pd f rt fr n cr (zopN f n)) (zopN f n) (0, 0, nI (zopN f n)) k) (w + 1)).2.1), .int zz_])), (zp, .inl (cI, 6, .inl pw)), (zd, .inl (cI, 6, .inl pd)), (r, .inr (3, [.ref ro, .ref rn, .ref rr, .int rt, .int fr, .int pr, .int (nI n), .int (nI m)])), (a, .inr (6, [.ref b])), (b, .inl (cI, 36, .inl f))] H) e_23 hP
          have hD : va_D A [(z, .inr (4, [.ref zp, .ref zd, .int (nI cr), .int ((ztw ((zokc pw pd f rt fr n cr (zopN f n)) k) k (ztk (zokc pw pd f rt fr n cr (zopN f n)) (zopN f n) (0, 0, nI (zopN f n)) k) (w + 1)).1), .int ((ztw ((zokc pw pd f rt fr n cr (zopN f n)) k) k (ztk (zokc pw pd f rt fr n cr (zopN f n)) (zopN f n) (0, 0, nI (zopN f n)) k) (w + 1)).2.1), .int ((ztw ((zokc pw pd f rt fr n cr (zopN f n)) k) k (ztk (zokc pw pd f rt fr n cr (zopN f n)) (zopN f n) (0, 0, nI (zopN f n)) k) (w + 1)).2.2)])), (zp, .inl (cI, 6, .inl pw)), (zd, .inl (cI, 6, .inl pd)), (r, .inr (3, [.ref ro, .ref rn, .ref rr, .int rt, .int fr, .int pr, .int (nI n), .int (nI m)])), (a, .inr (6, [.ref b])), (b, .inl (cI, 36, .inl f))] := zD_of hD rfl
          have hl : lv_has ls 6 [(5, .int (nI (w + 1))), (4, .int (nI k)), (3, .int (nI (zopN f n))), (0, .ref z), (1, .ref r), (2, .ref a)] := lv_sub hl [0, 1, 2, 3, 4, 5] rfl
          exact ih_12 _ _ _ (by omega) ⟨hP, hD, hS, hl⟩
        · have c_20 : ((nI w) &&& ((nI (zopN f n)) ^^^ (-1))) = 0 := c_20
          refine lv_aload_n hx hb dX4_readTales_78 rfl (lv_at hl 3 rfl) ?_
          refine lv_aload_n hx hb dX4_readTales_79 rfl (lv_at hl 4 rfl) ?_
          refine lv_aload_n hx hb dX4_readTales_80 rfl (lv_at hl 5 rfl) ?_
          refine lv_iload hx hb dX4_readTales_81 (lv_at hl 1 rfl) ?_
          refine lv_iload hx hb dX4_readTales_83 (lv_at hl 0 rfl) ?_
          refine z_callVi (As := [.ref r, .ref a, .int (nI k), .int (nI w)]) (rest := []) (ci := 4) (k0 := 0) Z hP hD hS hl.1 (zc_X4_fits l D cI cZ z zp zd cr ((ztw ((zokc pw pd f rt fr n cr (zopN f n)) k) k (ztk (zokc pw pd f rt fr n cr (zopN f n)) (zopN f n) (0, 0, nI (zopN f n)) k) w).1) ((ztw ((zokc pw pd f rt fr n cr (zopN f n)) k) k (ztk (zokc pw pd f rt fr n cr (zopN f n)) (zopN f n) (0, 0, nI (zopN f n)) k) w).2.1) ((ztw ((zokc pw pd f rt fr n cr (zopN f n)) k) k (ztk (zokc pw pd f rt fr n cr (zopN f n)) (zopN f n) (0, 0, nI (zopN f n)) k) w).2.2) pw pd r ro rn rr rt fr pr n m a b f k w (by omega) (by omega) (by omega)) zm548 zm549 zm10 zm36 zm550 ⟨rfl, zd_X4_fits⟩ ⟨Nat.le_of_ble_eq_true rfl, Nat.le_of_ble_eq_true rfl⟩ ⟨Nat.zero_le _, Nat.zero_le _⟩ [0, 1, 2, 3, 4, 5] rfl (by decide) rfl rfl rfl (fun _ => rfl) rfl (Nat.le_of_ble_eq_true rfl) rfl dX4_readTales_85 (fun r_24 u H locs h_25 hP hD hS => ?_)
          have hP : va_P D vwCl [(z, .inr (4, [.ref zp, .ref zd, .int (nI cr), .int ((ztw ((zokc pw pd f rt fr n cr (zopN f n)) k) k (ztk (zokc pw pd f rt fr n cr (zopN f n)) (zopN f n) (0, 0, nI (zopN f n)) k) w).1), .int ((ztw ((zokc pw pd f rt fr n cr (zopN f n)) k) k (ztk (zokc pw pd f rt fr n cr (zopN f n)) (zopN f n) (0, 0, nI (zopN f n)) k) w).2.1), .int ((ztw ((zokc pw pd f rt fr n cr (zopN f n)) k) k (ztk (zokc pw pd f rt fr n cr (zopN f n)) (zopN f n) (0, 0, nI (zopN f n)) k) w).2.2)])), (zp, .inl (cI, 6, .inl pw)), (zd, .inl (cI, 6, .inl pd)), (r, .inr (3, [.ref ro, .ref rn, .ref rr, .int rt, .int fr, .int pr, .int (nI n), .int (nI m)])), (a, .inr (6, [.ref b])), (b, .inl (cI, 36, .inl f))] H := hP
          have hD : va_D A [(z, .inr (4, [.ref zp, .ref zd, .int (nI cr), .int ((ztw ((zokc pw pd f rt fr n cr (zopN f n)) k) k (ztk (zokc pw pd f rt fr n cr (zopN f n)) (zopN f n) (0, 0, nI (zopN f n)) k) w).1), .int ((ztw ((zokc pw pd f rt fr n cr (zopN f n)) k) k (ztk (zokc pw pd f rt fr n cr (zopN f n)) (zopN f n) (0, 0, nI (zopN f n)) k) w).2.1), .int ((ztw ((zokc pw pd f rt fr n cr (zopN f n)) k) k (ztk (zokc pw pd f rt fr n cr (zopN f n)) (zopN f n) (0, 0, nI (zopN f n)) k) w).2.2)])), (zp, .inl (cI, 6, .inl pw)), (zd, .inl (cI, 6, .inl pd)), (r, .inr (3, [.ref ro, .ref rn, .ref rr, .int rt, .int fr, .int pr, .int (nI n), .int (nI m)])), (a, .inr (6, [.ref b])), (b, .inl (cI, 36, .inl f))] := hD
          have h_25 : r_24 = if zfit pw pd f rt fr n k w cr = true then 1 else 0 := h_25
          subst h_25
          refine lv_if_eq (tgt := 99) hx hb dX4_readTales_88 (by decide) (fun c_26 => ?_) (fun c_26 => ?_)
          · have c_26 := zb0 c_26
            refine lv_iinc (v := nI (w + 1)) (lv' := [(5, .int (nI (w + 1))), (4, .int (nI k)), (3, .int (nI (zopN f n))), (0, .ref z), (1, .ref r), (2, .ref a)]) hx hb dX4_readTales_99 hl (k := 0) rfl (z_inc _ 1) (by decide) rfl (fun ls hl => ?_)
            refine lv_goto (tgt := 63) hx hb dX4_readTales_102 (by decide) ?_
            have e_27 : (ztw ((zokc pw pd f rt fr n cr (zopN f n)) k) k (ztk (zokc pw pd f rt fr n cr (zopN f n)) (zopN f n) (0, 0, nI (zopN f n)) k) w).1 = (ztw ((zokc pw pd f rt fr n cr (zopN f n)) k) k (ztk (zokc pw pd f rt fr n cr (zopN f n)) (zopN f n) (0, 0, nI (zopN f n)) k) (w + 1)).1 := by first | rfl | (rw [ztw_yes (zokc_yes (by assumption) (by assumption))] <;> rfl) | (rw [ztw_no (zokc_no1 (by assumption))] <;> rfl) | (rw [ztw_no (zokc_no2 (by assumption))] <;> rfl)
            have hP : va_P D vwCl [(z, .inr (4, [.ref zp, .ref zd, .int (nI cr), .int ((ztw ((zokc pw pd f rt fr n cr (zopN f n)) k) k (ztk (zokc pw pd f rt fr n cr (zopN f n)) (zopN f n) (0, 0, nI (zopN f n)) k) (w + 1)).1), .int ((ztw ((zokc pw pd f rt fr n cr (zopN f n)) k) k (ztk (zokc pw pd f rt fr n cr (zopN f n)) (zopN f n) (0, 0, nI (zopN f n)) k) w).2.1), .int ((ztw ((zokc pw pd f rt fr n cr (zopN f n)) k) k (ztk (zokc pw pd f rt fr n cr (zopN f n)) (zopN f n) (0, 0, nI (zopN f n)) k) w).2.2)])), (zp, .inl (cI, 6, .inl pw)), (zd, .inl (cI, 6, .inl pd)), (r, .inr (3, [.ref ro, .ref rn, .ref rr, .int rt, .int fr, .int pr, .int (nI n), .int (nI m)])), (a, .inr (6, [.ref b])), (b, .inl (cI, 36, .inl f))] H := Eq.subst (motive := fun zz_ => va_P D vwCl [(z, .inr (4, [.ref zp, .ref zd, .int (nI cr), .int zz_, .int ((ztw ((zokc pw pd f rt fr n cr (zopN f n)) k) k (ztk (zokc pw pd f rt fr n cr (zopN f n)) (zopN f n) (0, 0, nI (zopN f n)) k) w).2.1), .int ((ztw ((zokc pw pd f rt fr n cr (zopN f n)) k) k (ztk (zokc pw pd f rt fr n cr (zopN f n)) (zopN f n) (0, 0, nI (zopN f n)) k) w).2.2)])), (zp, .inl (cI, 6, .inl pw)), (zd, .inl (cI, 6, .inl pd)), (r, .inr (3, [.ref ro, .ref rn, .ref rr, .int rt, .int fr, .int pr, .int (nI n), .int (nI m)])), (a, .inr (6, [.ref b])), (b, .inl (cI, 36, .inl f))] H) e_27 hP
            have e_28 : (ztw ((zokc pw pd f rt fr n cr (zopN f n)) k) k (ztk (zokc pw pd f rt fr n cr (zopN f n)) (zopN f n) (0, 0, nI (zopN f n)) k) w).2.1 = (ztw ((zokc pw pd f rt fr n cr (zopN f n)) k) k (ztk (zokc pw pd f rt fr n cr (zopN f n)) (zopN f n) (0, 0, nI (zopN f n)) k) (w + 1)).2.1 := by first | rfl | (rw [ztw_yes (zokc_yes (by assumption) (by assumption))] <;> rfl) | (rw [ztw_no (zokc_no1 (by assumption))] <;> rfl) | (rw [ztw_no (zokc_no2 (by assumption))] <;> rfl)
            have hP : va_P D vwCl [(z, .inr (4, [.ref zp, .ref zd, .int (nI cr), .int ((ztw ((zokc pw pd f rt fr n cr (zopN f n)) k) k (ztk (zokc pw pd f rt fr n cr (zopN f n)) (zopN f n) (0, 0, nI (zopN f n)) k) (w + 1)).1), .int ((ztw ((zokc pw pd f rt fr n cr (zopN f n)) k) k (ztk (zokc pw pd f rt fr n cr (zopN f n)) (zopN f n) (0, 0, nI (zopN f n)) k) (w + 1)).2.1), .int ((ztw ((zokc pw pd f rt fr n cr (zopN f n)) k) k (ztk (zokc pw pd f rt fr n cr (zopN f n)) (zopN f n) (0, 0, nI (zopN f n)) k) w).2.2)])), (zp, .inl (cI, 6, .inl pw)), (zd, .inl (cI, 6, .inl pd)), (r, .inr (3, [.ref ro, .ref rn, .ref rr, .int rt, .int fr, .int pr, .int (nI n), .int (nI m)])), (a, .inr (6, [.ref b])), (b, .inl (cI, 36, .inl f))] H := Eq.subst (motive := fun zz_ => va_P D vwCl [(z, .inr (4, [.ref zp, .ref zd, .int (nI cr), .int ((ztw ((zokc pw pd f rt fr n cr (zopN f n)) k) k (ztk (zokc pw pd f rt fr n cr (zopN f n)) (zopN f n) (0, 0, nI (zopN f n)) k) (w + 1)).1), .int zz_, .int ((ztw ((zokc pw pd f rt fr n cr (zopN f n)) k) k (ztk (zokc pw pd f rt fr n cr (zopN f n)) (zopN f n) (0, 0, nI (zopN f n)) k) w).2.2)])), (zp, .inl (cI, 6, .inl pw)), (zd, .inl (cI, 6, .inl pd)), (r, .inr (3, [.ref ro, .ref rn, .ref rr, .int rt, .int fr, .int pr, .int (nI n), .int (nI m)])), (a, .inr (6, [.ref b])), (b, .inl (cI, 36, .inl f))] H) e_28 hP
            have e_29 : (ztw ((zokc pw pd f rt fr n cr (zopN f n)) k) k (ztk (zokc pw pd f rt fr n cr (zopN f n)) (zopN f n) (0, 0, nI (zopN f n)) k) w).2.2 = (ztw ((zokc pw pd f rt fr n cr (zopN f n)) k) k (ztk (zokc pw pd f rt fr n cr (zopN f n)) (zopN f n) (0, 0, nI (zopN f n)) k) (w + 1)).2.2 := by first | rfl | (rw [ztw_yes (zokc_yes (by assumption) (by assumption))] <;> rfl) | (rw [ztw_no (zokc_no1 (by assumption))] <;> rfl) | (rw [ztw_no (zokc_no2 (by assumption))] <;> rfl)
            have hP : va_P D vwCl [(z, .inr (4, [.ref zp, .ref zd, .int (nI cr), .int ((ztw ((zokc pw pd f rt fr n cr (zopN f n)) k) k (ztk (zokc pw pd f rt fr n cr (zopN f n)) (zopN f n) (0, 0, nI (zopN f n)) k) (w + 1)).1), .int ((ztw ((zokc pw pd f rt fr n cr (zopN f n)) k) k (ztk (zokc pw pd f rt fr n cr (zopN f n)) (zopN f n) (0, 0, nI (zopN f n)) k) (w + 1)).2.1), .int ((ztw ((zokc pw pd f rt fr n cr (zopN f n)) k) k (ztk (zokc pw pd f rt fr n cr (zopN f n)) (zopN f n) (0, 0, nI (zopN f n)) k) (w + 1)).2.2)])), (zp, .inl (cI, 6, .inl pw)), (zd, .inl (cI, 6, .inl pd)), (r, .inr (3, [.ref ro, .ref rn, .ref rr, .int rt, .int fr, .int pr, .int (nI n), .int (nI m)])), (a, .inr (6, [.ref b])), (b, .inl (cI, 36, .inl f))] H := Eq.subst (motive := fun zz_ => va_P D vwCl [(z, .inr (4, [.ref zp, .ref zd, .int (nI cr), .int ((ztw ((zokc pw pd f rt fr n cr (zopN f n)) k) k (ztk (zokc pw pd f rt fr n cr (zopN f n)) (zopN f n) (0, 0, nI (zopN f n)) k) (w + 1)).1), .int ((ztw ((zokc pw pd f rt fr n cr (zopN f n)) k) k (ztk (zokc pw pd f rt fr n cr (zopN f n)) (zopN f n) (0, 0, nI (zopN f n)) k) (w + 1)).2.1), .int zz_])), (zp, .inl (cI, 6, .inl pw)), (zd, .inl (cI, 6, .inl pd)), (r, .inr (3, [.ref ro, .ref rn, .ref rr, .int rt, .int fr, .int pr, .int (nI n), .int (nI m)])), (a, .inr (6, [.ref b])), (b, .inl (cI, 36, .inl f))] H) e_29 hP
            have hD : va_D A [(z, .inr (4, [.ref zp, .ref zd, .int (nI cr), .int ((ztw ((zokc pw pd f rt fr n cr (zopN f n)) k) k (ztk (zokc pw pd f rt fr n cr (zopN f n)) (zopN f n) (0, 0, nI (zopN f n)) k) (w + 1)).1), .int ((ztw ((zokc pw pd f rt fr n cr (zopN f n)) k) k (ztk (zokc pw pd f rt fr n cr (zopN f n)) (zopN f n) (0, 0, nI (zopN f n)) k) (w + 1)).2.1), .int ((ztw ((zokc pw pd f rt fr n cr (zopN f n)) k) k (ztk (zokc pw pd f rt fr n cr (zopN f n)) (zopN f n) (0, 0, nI (zopN f n)) k) (w + 1)).2.2)])), (zp, .inl (cI, 6, .inl pw)), (zd, .inl (cI, 6, .inl pd)), (r, .inr (3, [.ref ro, .ref rn, .ref rr, .int rt, .int fr, .int pr, .int (nI n), .int (nI m)])), (a, .inr (6, [.ref b])), (b, .inl (cI, 36, .inl f))] := zD_of hD rfl
            have hl : lv_has ls 6 [(5, .int (nI (w + 1))), (4, .int (nI k)), (3, .int (nI (zopN f n))), (0, .ref z), (1, .ref r), (2, .ref a)] := lv_sub hl [0, 1, 2, 3, 4, 5] rfl
            exact ih_12 _ _ _ (by omega) ⟨hP, hD, hS, hl⟩
          · have c_26 := zb1 c_26
            refine lv_aload_n hx hb dX4_readTales_91 rfl (lv_at hl 3 rfl) ?_
            refine lv_iload hx hb dX4_readTales_92 (lv_at hl 1 rfl) ?_
            refine lv_iload hx hb dX4_readTales_94 (lv_at hl 0 rfl) ?_
            refine z_callVv (As := [.int (nI k), .int (nI w)]) (rest := []) (ci := 4) (k0 := 0) Z hP hD hS hl.1 (zc_X4_addTale l D cI cZ z zp zd cr ((ztw ((zokc pw pd f rt fr n cr (zopN f n)) k) k (ztk (zokc pw pd f rt fr n cr (zopN f n)) (zopN f n) (0, 0, nI (zopN f n)) k) w).1) ((ztw ((zokc pw pd f rt fr n cr (zopN f n)) k) k (ztk (zokc pw pd f rt fr n cr (zopN f n)) (zopN f n) (0, 0, nI (zopN f n)) k) w).2.1) ((ztw ((zokc pw pd f rt fr n cr (zopN f n)) k) k (ztk (zokc pw pd f rt fr n cr (zopN f n)) (zopN f n) (0, 0, nI (zopN f n)) k) w).2.2) k w ) zm553 zm554 zm11 zm36 zm555 ⟨rfl, zd_X4_addTale⟩ ⟨Nat.le_of_ble_eq_true rfl, Nat.le_of_ble_eq_true rfl⟩ ⟨Nat.zero_le _, Nat.zero_le _⟩ [0] rfl (by decide) rfl rfl rfl (fun _ => rfl) rfl (Nat.le_of_ble_eq_true rfl) rfl dX4_readTales_96 (fun u H locs h_31 hP hD hS => ?_)
            have hP : va_P D vwCl [(z, .inr (4, [.ref zp, .ref zd, .int (nI cr), .int (((ztw ((zokc pw pd f rt fr n cr (zopN f n)) k) k (ztk (zokc pw pd f rt fr n cr (zopN f n)) (zopN f n) (0, 0, nI (zopN f n)) k) w).1) + 1), .int (((ztw ((zokc pw pd f rt fr n cr (zopN f n)) k) k (ztk (zokc pw pd f rt fr n cr (zopN f n)) (zopN f n) (0, 0, nI (zopN f n)) k) w).2.1) ||| zbit k), .int (((ztw ((zokc pw pd f rt fr n cr (zopN f n)) k) k (ztk (zokc pw pd f rt fr n cr (zopN f n)) (zopN f n) (0, 0, nI (zopN f n)) k) w).2.2) &&& nI w)])), (zp, .inl (cI, 6, .inl pw)), (zd, .inl (cI, 6, .inl pd)), (r, .inr (3, [.ref ro, .ref rn, .ref rr, .int rt, .int fr, .int pr, .int (nI n), .int (nI m)])), (a, .inr (6, [.ref b])), (b, .inl (cI, 36, .inl f))] H := hP
            have hD : va_D A [(z, .inr (4, [.ref zp, .ref zd, .int (nI cr), .int (((ztw ((zokc pw pd f rt fr n cr (zopN f n)) k) k (ztk (zokc pw pd f rt fr n cr (zopN f n)) (zopN f n) (0, 0, nI (zopN f n)) k) w).1) + 1), .int (((ztw ((zokc pw pd f rt fr n cr (zopN f n)) k) k (ztk (zokc pw pd f rt fr n cr (zopN f n)) (zopN f n) (0, 0, nI (zopN f n)) k) w).2.1) ||| zbit k), .int (((ztw ((zokc pw pd f rt fr n cr (zopN f n)) k) k (ztk (zokc pw pd f rt fr n cr (zopN f n)) (zopN f n) (0, 0, nI (zopN f n)) k) w).2.2) &&& nI w)])), (zp, .inl (cI, 6, .inl pw)), (zd, .inl (cI, 6, .inl pd)), (r, .inr (3, [.ref ro, .ref rn, .ref rr, .int rt, .int fr, .int pr, .int (nI n), .int (nI m)])), (a, .inr (6, [.ref b])), (b, .inl (cI, 36, .inl f))] := hD
            refine lv_iinc (v := nI (w + 1)) (lv' := [(5, .int (nI (w + 1))), (4, .int (nI k)), (3, .int (nI (zopN f n))), (0, .ref z), (1, .ref r), (2, .ref a)]) hx hb dX4_readTales_99 hl (k := 0) rfl (z_inc _ 1) (by decide) rfl (fun ls hl => ?_)
            refine lv_goto (tgt := 63) hx hb dX4_readTales_102 (by decide) ?_
            have e_32 : ((ztw ((zokc pw pd f rt fr n cr (zopN f n)) k) k (ztk (zokc pw pd f rt fr n cr (zopN f n)) (zopN f n) (0, 0, nI (zopN f n)) k) w).1) + 1 = (ztw ((zokc pw pd f rt fr n cr (zopN f n)) k) k (ztk (zokc pw pd f rt fr n cr (zopN f n)) (zopN f n) (0, 0, nI (zopN f n)) k) (w + 1)).1 := by first | rfl | (rw [ztw_yes (zokc_yes (by assumption) (by assumption))] <;> rfl) | (rw [ztw_no (zokc_no1 (by assumption))] <;> rfl) | (rw [ztw_no (zokc_no2 (by assumption))] <;> rfl)
            have hP : va_P D vwCl [(z, .inr (4, [.ref zp, .ref zd, .int (nI cr), .int ((ztw ((zokc pw pd f rt fr n cr (zopN f n)) k) k (ztk (zokc pw pd f rt fr n cr (zopN f n)) (zopN f n) (0, 0, nI (zopN f n)) k) (w + 1)).1), .int (((ztw ((zokc pw pd f rt fr n cr (zopN f n)) k) k (ztk (zokc pw pd f rt fr n cr (zopN f n)) (zopN f n) (0, 0, nI (zopN f n)) k) w).2.1) ||| zbit k), .int (((ztw ((zokc pw pd f rt fr n cr (zopN f n)) k) k (ztk (zokc pw pd f rt fr n cr (zopN f n)) (zopN f n) (0, 0, nI (zopN f n)) k) w).2.2) &&& nI w)])), (zp, .inl (cI, 6, .inl pw)), (zd, .inl (cI, 6, .inl pd)), (r, .inr (3, [.ref ro, .ref rn, .ref rr, .int rt, .int fr, .int pr, .int (nI n), .int (nI m)])), (a, .inr (6, [.ref b])), (b, .inl (cI, 36, .inl f))] H := Eq.subst (motive := fun zz_ => va_P D vwCl [(z, .inr (4, [.ref zp, .ref zd, .int (nI cr), .int zz_, .int (((ztw ((zokc pw pd f rt fr n cr (zopN f n)) k) k (ztk (zokc pw pd f rt fr n cr (zopN f n)) (zopN f n) (0, 0, nI (zopN f n)) k) w).2.1) ||| zbit k), .int (((ztw ((zokc pw pd f rt fr n cr (zopN f n)) k) k (ztk (zokc pw pd f rt fr n cr (zopN f n)) (zopN f n) (0, 0, nI (zopN f n)) k) w).2.2) &&& nI w)])), (zp, .inl (cI, 6, .inl pw)), (zd, .inl (cI, 6, .inl pd)), (r, .inr (3, [.ref ro, .ref rn, .ref rr, .int rt, .int fr, .int pr, .int (nI n), .int (nI m)])), (a, .inr (6, [.ref b])), (b, .inl (cI, 36, .inl f))] H) e_32 hP
            have e_33 : ((ztw ((zokc pw pd f rt fr n cr (zopN f n)) k) k (ztk (zokc pw pd f rt fr n cr (zopN f n)) (zopN f n) (0, 0, nI (zopN f n)) k) w).2.1) ||| zbit k = (ztw ((zokc pw pd f rt fr n cr (zopN f n)) k) k (ztk (zokc pw pd f rt fr n cr (zopN f n)) (zopN f n) (0, 0, nI (zopN f n)) k) (w + 1)).2.1 := by first | rfl | (rw [ztw_yes (zokc_yes (by assumption) (by assumption))] <;> rfl) | (rw [ztw_no (zokc_no1 (by assumption))] <;> rfl) | (rw [ztw_no (zokc_no2 (by assumption))] <;> rfl)
            have hP : va_P D vwCl [(z, .inr (4, [.ref zp, .ref zd, .int (nI cr), .int ((ztw ((zokc pw pd f rt fr n cr (zopN f n)) k) k (ztk (zokc pw pd f rt fr n cr (zopN f n)) (zopN f n) (0, 0, nI (zopN f n)) k) (w + 1)).1), .int ((ztw ((zokc pw pd f rt fr n cr (zopN f n)) k) k (ztk (zokc pw pd f rt fr n cr (zopN f n)) (zopN f n) (0, 0, nI (zopN f n)) k) (w + 1)).2.1), .int (((ztw ((zokc pw pd f rt fr n cr (zopN f n)) k) k (ztk (zokc pw pd f rt fr n cr (zopN f n)) (zopN f n) (0, 0, nI (zopN f n)) k) w).2.2) &&& nI w)])), (zp, .inl (cI, 6, .inl pw)), (zd, .inl (cI, 6, .inl pd)), (r, .inr (3, [.ref ro, .ref rn, .ref rr, .int rt, .int fr, .int pr, .int (nI n), .int (nI m)])), (a, .inr (6, [.ref b])), (b, .inl (cI, 36, .inl f))] H := Eq.subst (motive := fun zz_ => va_P D vwCl [(z, .inr (4, [.ref zp, .ref zd, .int (nI cr), .int ((ztw ((zokc pw pd f rt fr n cr (zopN f n)) k) k (ztk (zokc pw pd f rt fr n cr (zopN f n)) (zopN f n) (0, 0, nI (zopN f n)) k) (w + 1)).1), .int zz_, .int (((ztw ((zokc pw pd f rt fr n cr (zopN f n)) k) k (ztk (zokc pw pd f rt fr n cr (zopN f n)) (zopN f n) (0, 0, nI (zopN f n)) k) w).2.2) &&& nI w)])), (zp, .inl (cI, 6, .inl pw)), (zd, .inl (cI, 6, .inl pd)), (r, .inr (3, [.ref ro, .ref rn, .ref rr, .int rt, .int fr, .int pr, .int (nI n), .int (nI m)])), (a, .inr (6, [.ref b])), (b, .inl (cI, 36, .inl f))] H) e_33 hP
            have e_34 : ((ztw ((zokc pw pd f rt fr n cr (zopN f n)) k) k (ztk (zokc pw pd f rt fr n cr (zopN f n)) (zopN f n) (0, 0, nI (zopN f n)) k) w).2.2) &&& nI w = (ztw ((zokc pw pd f rt fr n cr (zopN f n)) k) k (ztk (zokc pw pd f rt fr n cr (zopN f n)) (zopN f n) (0, 0, nI (zopN f n)) k) (w + 1)).2.2 := by first | rfl | (rw [ztw_yes (zokc_yes (by assumption) (by assumption))] <;> rfl) | (rw [ztw_no (zokc_no1 (by assumption))] <;> rfl) | (rw [ztw_no (zokc_no2 (by assumption))] <;> rfl)
            have hP : va_P D vwCl [(z, .inr (4, [.ref zp, .ref zd, .int (nI cr), .int ((ztw ((zokc pw pd f rt fr n cr (zopN f n)) k) k (ztk (zokc pw pd f rt fr n cr (zopN f n)) (zopN f n) (0, 0, nI (zopN f n)) k) (w + 1)).1), .int ((ztw ((zokc pw pd f rt fr n cr (zopN f n)) k) k (ztk (zokc pw pd f rt fr n cr (zopN f n)) (zopN f n) (0, 0, nI (zopN f n)) k) (w + 1)).2.1), .int ((ztw ((zokc pw pd f rt fr n cr (zopN f n)) k) k (ztk (zokc pw pd f rt fr n cr (zopN f n)) (zopN f n) (0, 0, nI (zopN f n)) k) (w + 1)).2.2)])), (zp, .inl (cI, 6, .inl pw)), (zd, .inl (cI, 6, .inl pd)), (r, .inr (3, [.ref ro, .ref rn, .ref rr, .int rt, .int fr, .int pr, .int (nI n), .int (nI m)])), (a, .inr (6, [.ref b])), (b, .inl (cI, 36, .inl f))] H := Eq.subst (motive := fun zz_ => va_P D vwCl [(z, .inr (4, [.ref zp, .ref zd, .int (nI cr), .int ((ztw ((zokc pw pd f rt fr n cr (zopN f n)) k) k (ztk (zokc pw pd f rt fr n cr (zopN f n)) (zopN f n) (0, 0, nI (zopN f n)) k) (w + 1)).1), .int ((ztw ((zokc pw pd f rt fr n cr (zopN f n)) k) k (ztk (zokc pw pd f rt fr n cr (zopN f n)) (zopN f n) (0, 0, nI (zopN f n)) k) (w + 1)).2.1), .int zz_])), (zp, .inl (cI, 6, .inl pw)), (zd, .inl (cI, 6, .inl pd)), (r, .inr (3, [.ref ro, .ref rn, .ref rr, .int rt, .int fr, .int pr, .int (nI n), .int (nI m)])), (a, .inr (6, [.ref b])), (b, .inl (cI, 36, .inl f))] H) e_34 hP
            have hD : va_D A [(z, .inr (4, [.ref zp, .ref zd, .int (nI cr), .int ((ztw ((zokc pw pd f rt fr n cr (zopN f n)) k) k (ztk (zokc pw pd f rt fr n cr (zopN f n)) (zopN f n) (0, 0, nI (zopN f n)) k) (w + 1)).1), .int ((ztw ((zokc pw pd f rt fr n cr (zopN f n)) k) k (ztk (zokc pw pd f rt fr n cr (zopN f n)) (zopN f n) (0, 0, nI (zopN f n)) k) (w + 1)).2.1), .int ((ztw ((zokc pw pd f rt fr n cr (zopN f n)) k) k (ztk (zokc pw pd f rt fr n cr (zopN f n)) (zopN f n) (0, 0, nI (zopN f n)) k) (w + 1)).2.2)])), (zp, .inl (cI, 6, .inl pw)), (zd, .inl (cI, 6, .inl pd)), (r, .inr (3, [.ref ro, .ref rn, .ref rr, .int rt, .int fr, .int pr, .int (nI n), .int (nI m)])), (a, .inr (6, [.ref b])), (b, .inl (cI, 36, .inl f))] := zD_of hD rfl
            have hl : lv_has ls 6 [(5, .int (nI (w + 1))), (4, .int (nI k)), (3, .int (nI (zopN f n))), (0, .ref z), (1, .ref r), (2, .ref a)] := lv_sub hl [0, 1, 2, 3, 4, 5] rfl
            exact ih_12 _ _ _ (by omega) ⟨hP, hD, hS, hl⟩
  · have c_3 := znle (i := n) (j := i) (by omega) (by omega) c_3
    refine lv_aload_n hx hb dX4_readTales_14 rfl (lv_at hl 4 rfl) ?_
    refine lv_iload hx hb dX4_readTales_15 (lv_at hl 0 rfl) ?_
    refine z_callVi (As := [.int (nI i)]) (rest := []) (ci := 6) (k0 := 0) Z hP hD hS hl.1 (zc_X6_isOpen l D cI cZ a b f i (by omega)) zm547 zm377 zm378 zm33 zm379 ⟨rfl, zd_X6_isOpen⟩ ⟨Nat.le_of_ble_eq_true rfl, Nat.le_of_ble_eq_true rfl⟩ ⟨Nat.zero_le _, Nat.zero_le _⟩ [4, 5] rfl (by decide) rfl rfl rfl (fun _ => rfl) rfl (Nat.le_of_ble_eq_true rfl) rfl dX4_readTales_17 (fun r_35 u H locs h_36 hP hD hS => ?_)
    have hP : va_P D vwCl [(z, .inr (4, [.ref zp, .ref zd, .int (nI cr), .int ft, .int kd, .int su])), (zp, .inl (cI, 6, .inl pw)), (zd, .inl (cI, 6, .inl pd)), (r, .inr (3, [.ref ro, .ref rn, .ref rr, .int rt, .int fr, .int pr, .int (nI n), .int (nI m)])), (a, .inr (6, [.ref b])), (b, .inl (cI, 36, .inl f))] H := hP
    have hD : va_D A [(z, .inr (4, [.ref zp, .ref zd, .int (nI cr), .int ft, .int kd, .int su])), (zp, .inl (cI, 6, .inl pw)), (zd, .inl (cI, 6, .inl pd)), (r, .inr (3, [.ref ro, .ref rn, .ref rr, .int rt, .int fr, .int pr, .int (nI n), .int (nI m)])), (a, .inr (6, [.ref b])), (b, .inl (cI, 36, .inl f))] := hD
    have h_36 : r_35 = if f (25 + i) = -9 ∧ f (30 + i) = -9 then 1 else 0 := h_36
    subst h_36
    refine lv_if_eq (tgt := 30) hx hb dX4_readTales_20 (by decide) (fun c_37 => ?_) (fun c_37 => ?_)
    · have c_37 := zb0 c_37
      refine lv_iinc (v := nI (i + 1)) (lv' := [(4, .int (nI (i + 1))), (3, .int (zop f i)), (0, .ref z), (1, .ref r), (2, .ref a)]) hx hb dX4_readTales_30 hl (k := 0) rfl (z_inc _ 1) (by decide) rfl (fun ls hl => ?_)
      refine lv_goto (tgt := 5) hx hb dX4_readTales_33 (by decide) ?_
      have hl : lv_has ls 6 [(4, .int (nI (i + 1))), (3, .int (zop f i)), (0, .ref z), (1, .ref r), (2, .ref a)] := lv_sub hl [0, 1, 2, 3, 4] rfl
      have e_38 : zop f i = zop f (i + 1) := by (first | rfl | (simp [zop, c_3, c_37]; done) | (simp_all [zop]; done))
      have hl : lv_has ls 6 [(4, .int (nI (i + 1))), (3, .int (zop f (i + 1))), (0, .ref z), (1, .ref r), (2, .ref a)] := Eq.subst (motive := fun zz_ => lv_has ls 6 [(4, .int (nI (i + 1))), (3, .int zz_), (0, .ref z), (1, .ref r), (2, .ref a)]) e_38 hl
      exact ih_1 _ _ _ (by omega) ⟨hP, hD, hS, hl⟩
    · have c_37 := zb1 c_37
      refine lv_iload_n hx hb dX4_readTales_23 rfl (lv_at hl 1 rfl) ?_
      refine lv_iconst (v := nI 1) hx hb dX4_readTales_24 (by decide) ?_
      refine lv_iload hx hb dX4_readTales_25 (lv_at hl 0 rfl) ?_
      refine lv_ishl hx hb dX4_readTales_27 ?_
      refine z_top (y := (1 : Int32) <<< ((nI i) &&& 31)) rfl ?_
      refine z_top (y := zbit i) (rfl) ?_
      refine lv_ior hx hb dX4_readTales_28 ?_
      refine z_top (y := (zop f i) ||| (zbit i)) rfl ?_
      refine lv_istore_n (lv' := [(3, .int ((zop f i) ||| (zbit i))), (4, .int (nI i)), (0, .ref z), (1, .ref r), (2, .ref a)]) hx hb dX4_readTales_29 rfl hl (by decide) rfl (fun ls hl => ?_)
      refine lv_iinc (v := nI (i + 1)) (lv' := [(4, .int (nI (i + 1))), (3, .int ((zop f i) ||| (zbit i))), (0, .ref z), (1, .ref r), (2, .ref a)]) hx hb dX4_readTales_30 hl (k := 1) rfl (z_inc _ 1) (by decide) rfl (fun ls hl => ?_)
      refine lv_goto (tgt := 5) hx hb dX4_readTales_33 (by decide) ?_
      have hl : lv_has ls 6 [(4, .int (nI (i + 1))), (3, .int ((zop f i) ||| (zbit i))), (0, .ref z), (1, .ref r), (2, .ref a)] := lv_sub hl [0, 1, 2, 3, 4] rfl
      have e_39 : (zop f i) ||| (zbit i) = zop f (i + 1) := by (first | rfl | (simp [zop, c_3, c_37]; done) | (simp_all [zop]; done))
      have hl : lv_has ls 6 [(4, .int (nI (i + 1))), (3, .int (zop f (i + 1))), (0, .ref z), (1, .ref r), (2, .ref a)] := Eq.subst (motive := fun zz_ => lv_has ls 6 [(4, .int (nI (i + 1))), (3, .int zz_), (0, .ref z), (1, .ref r), (2, .ref a)]) e_39 hl
      exact ih_1 _ _ _ (by omega) ⟨hP, hD, hS, hl⟩
