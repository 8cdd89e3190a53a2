theorem dX6_expected_0 : decode cX6_expected 0 = .ok (.aload_n 0, 1) := by decide +kernel
theorem dX6_expected_1 : decode cX6_expected 1 = .ok (.getfield 11, 3) := by decide +kernel
theorem dX6_expected_4 : decode cX6_expected 4 = .ok (.iload_n 1, 1) := by decide +kernel
theorem dX6_expected_5 : decode cX6_expected 5 = .ok (.iconst 4, 1) := by decide +kernel
theorem dX6_expected_6 : decode cX6_expected 6 = .ok (.imul, 1) := by decide +kernel
theorem dX6_expected_7 : decode cX6_expected 7 = .ok (.iload_n 2, 1) := by decide +kernel
theorem dX6_expected_8 : decode cX6_expected 8 = .ok (.iadd, 1) := by decide +kernel
theorem dX6_expected_9 : decode cX6_expected 9 = .ok (.iaload, 1) := by decide +kernel
theorem dX6_expected_10 : decode cX6_expected 10 = .ok (.ireturn, 1) := by decide +kernel
theorem zd_X6_expected : yX6_expected.cls ≠ "java/lang/invoke/MethodHandle" ∧ yX6_expected.cls ≠ "java/lang/invoke/VarHandle" ∧ (parseMethodDescriptor yX6_expected.desc).map (fun d => d.parameters.length) = some 2 := by decide +kernel
set_option maxHeartbeats 4000000 in
set_option maxRecDepth 100000 in
theorem zc_X6_expected (l : Launch) (D : va_G) (cI cZ : ClassId) (a : Nat) (b : Nat) (f : Nat → Int32) (p : Nat) (k : Nat) (hp : p < 5) (hk : k < 4) : zI l yX6_expected cX6_expected 3 .int 0 0 D cI cZ [.ref a, .int (nI p), .int (nI k)] [(a, .inr (6, [.ref b])), (b, .inl (cI, 36, .inl f))] (fun (r : Int32) (u : Unit) => r = f (p * 4 + k)) (fun (u : Unit) => [(a, .inr (6, [.ref b])), (b, .inl (cI, 36, .inl f))]) := by
  refine zI_of (by decide) (Nat.le_of_ble_eq_true rfl) ?_
  intro pP eE sS mM aA bB mT cC A ls Z hP hD hS hl
  have hx := Z.1
  have hb := Z.2.1
  have hown := Z.2.2.2.2.2.1
  have hts := Z.2.2.2.2.1
  have Z : zAt pP sS mM aA mT cC D cI cZ A "SurpriseTax$State" cX6_expected 3 (some .int) := Z
  have hl : lv_has ls 3 [(0, .ref a), (1, .int (nI p)), (2, .int (nI k))] := hl
  obtain ⟨H, hH⟩ : ∃ H, H = sS.heap := ⟨_, rfl⟩
  have hP : va_P D vwCl [(a, .inr (6, [.ref b])), (b, .inl (cI, 36, .inl f))] H := by rw [hH]; exact hP
  have hS : va_S A sS.heap H [] := by rw [hH]; exact hS
  rw [← hH]
  clear hH
  obtain ⟨locs, hlo⟩ : ∃ q : List Loc, q = [] := ⟨_, rfl⟩
  rw [← hlo] at hS ⊢
  clear hlo
  refine lv_aload_n hx hb dX6_expected_0 rfl (lv_at hl 0 rfl) ?_
  refine z_get (ci := 6) (v := .ref b) Z zin6 hP 0 rfl rfl 0 (by decide) zm110 rfl rfl dX6_expected_1 ?_
  refine lv_iload_n hx hb dX6_expected_4 rfl (lv_at hl 1 rfl) ?_
  refine lv_iconst (v := nI 4) hx hb dX6_expected_5 (by decide) ?_
  refine lv_imul hx hb dX6_expected_6 ?_
  refine z_top (y := nI (p * 4)) (z_mul _ _) ?_
  refine lv_iload_n hx hb dX6_expected_7 rfl (lv_at hl 2 rfl) ?_
  refine lv_iadd hx hb dX6_expected_8 ?_
  refine z_top (y := nI (p * 4 + k)) (z_add _ _) ?_
  refine z_iald (n := 36) (f := f) (j := p * 4 + k) Z hP 1 rfl (by omega) (by decide) dX6_expected_9 ?_
  exact z_iret Z () rfl hP hS dX6_expected_10

theorem dX6_setExpected_0 : decode cX6_setExpected 0 = .ok (.aload_n 0, 1) := by decide +kernel
theorem dX6_setExpected_1 : decode cX6_setExpected 1 = .ok (.getfield 11, 3) := by decide +kernel
theorem dX6_setExpected_4 : decode cX6_setExpected 4 = .ok (.iload_n 1, 1) := by decide +kernel
theorem dX6_setExpected_5 : decode cX6_setExpected 5 = .ok (.iconst 4, 1) := by decide +kernel
theorem dX6_setExpected_6 : decode cX6_setExpected 6 = .ok (.imul, 1) := by decide +kernel
theorem dX6_setExpected_7 : decode cX6_setExpected 7 = .ok (.iload_n 2, 1) := by decide +kernel
theorem dX6_setExpected_8 : decode cX6_setExpected 8 = .ok (.iadd, 1) := by decide +kernel
theorem dX6_setExpected_9 : decode cX6_setExpected 9 = .ok (.iload_n 3, 1) := by decide +kernel
theorem dX6_setExpected_10 : decode cX6_setExpected 10 = .ok (.iastore, 1) := by decide +kernel
theorem dX6_setExpected_11 : decode cX6_setExpected 11 = .ok (.return_, 1) := by decide +kernel
theorem zd_X6_setExpected : yX6_setExpected.cls ≠ "java/lang/invoke/MethodHandle" ∧ yX6_setExpected.cls ≠ "java/lang/invoke/VarHandle" ∧ (parseMethodDescriptor yX6_setExpected.desc).map (fun d => d.parameters.length) = some 3 := by decide +kernel
set_option maxHeartbeats 4000000 in
set_option maxRecDepth 100000 in
theorem zc_X6_setExpected (l : Launch) (D : va_G) (cI cZ : ClassId) (a : Nat) (b : Nat) (f : Nat → Int32) (p : Nat) (k : Nat) (v : Int32) (hp : p < 5) (hk : k < 4) : zV l yX6_setExpected cX6_setExpected 4 0 0 D cI cZ [.ref a, .int (nI p), .int (nI k), .int v] [(a, .inr (6, [.ref b])), (b, .inl (cI, 36, .inl f))] (fun (u : Unit) => True) (fun (u : Unit) => [(a, .inr (6, [.ref b])), (b, .inl (cI, 36, .inl (upd f (p * 4 + k) v)))]) := by
  refine zV_of (by decide) (Nat.le_of_ble_eq_true rfl) ?_
  intro pP eE sS mM aA bB mT cC A ls Z hP hD hS hl
  have hx := Z.1
  have hb := Z.2.1
  have hown := Z.2.2.2.2.2.1
  have hts := Z.2.2.2.2.1
  have Z : zAt pP sS mM aA mT cC D cI cZ A "SurpriseTax$State" cX6_setExpected 4 none := Z
  have hl : lv_has ls 4 [(0, .ref a), (1, .int (nI p)), (2, .int (nI k)), (3, .int v)] := hl
  obtain ⟨H, hH⟩ : ∃ H, H = sS.heap := ⟨_, rfl⟩
  have hP : va_P D vwCl [(a, .inr (6, [.ref b])), (b, .inl (cI, 36, .inl f))] H := by rw [hH]; exact hP
  have hS : va_S A sS.heap H [] := by rw [hH]; exact hS
  rw [← hH]
  clear hH
  obtain ⟨locs, hlo⟩ : ∃ q : List Loc, q = [] := ⟨_, rfl⟩
  rw [← hlo] at hS ⊢
  clear hlo
  refine lv_aload_n hx hb dX6_setExpected_0 rfl (lv_at hl 0 rfl) ?_
  refine z_get (ci := 6) (v := .ref b) Z zin6 hP 0 rfl rfl 0 (by decide) zm110 rfl rfl dX6_setExpected_1 ?_
  refine lv_iload_n hx hb dX6_setExpected_4 rfl (lv_at hl 1 rfl) ?_
  refine lv_iconst (v := nI 4) hx hb dX6_setExpected_5 (by decide) ?_
  refine lv_imul hx hb dX6_setExpected_6 ?_
  refine z_top (y := nI (p * 4)) (z_mul _ _) ?_
  refine lv_iload_n hx hb dX6_setExpected_7 rfl (lv_at hl 2 rfl) ?_
  refine lv_iadd hx hb dX6_setExpected_8 ?_
  refine z_top (y := nI (p * 4 + k)) (z_add _ _) ?_
  refine lv_iload_n hx hb dX6_setExpected_9 rfl (lv_at hl 3 rfl) ?_
  refine z_iast (n := 36) (f := f) (j := p * 4 + k) (x := v) Z hP hD hS 1 rfl (by omega) (by decide) dX6_setExpected_10 (fun H locs hP hD hS => ?_)
  have hP : va_P D vwCl [(a, .inr (6, [.ref b])), (b, .inl (cI, 36, .inl (upd f (p * 4 + k) v)))] H := hP
  have hD : va_D A [(a, .inr (6, [.ref b])), (b, .inl (cI, 36, .inl (upd f (p * 4 + k) v)))] := hD
  exact z_vret Z () trivial hP hS dX6_setExpected_11

theorem dX6_coins_0 : decode cX6_coins 0 = .ok (.aload_n 0, 1) := by decide +kernel
theorem dX6_coins_1 : decode cX6_coins 1 = .ok (.getfield 11, 3) := by decide +kernel
theorem dX6_coins_4 : decode cX6_coins 4 = .ok (.bipush 20, 2) := by decide +kernel
theorem dX6_coins_6 : decode cX6_coins 6 = .ok (.iload_n 1, 1) := by decide +kernel
theorem dX6_coins_7 : decode cX6_coins 7 = .ok (.iadd, 1) := by decide +kernel
theorem dX6_coins_8 : decode cX6_coins 8 = .ok (.iaload, 1) := by decide +kernel
theorem dX6_coins_9 : decode cX6_coins 9 = .ok (.ireturn, 1) := by decide +kernel
theorem zd_X6_coins : yX6_coins.cls ≠ "java/lang/invoke/MethodHandle" ∧ yX6_coins.cls ≠ "java/lang/invoke/VarHandle" ∧ (parseMethodDescriptor yX6_coins.desc).map (fun d => d.parameters.length) = some 1 := by decide +kernel
set_option maxHeartbeats 4000000 in
set_option maxRecDepth 100000 in
theorem zc_X6_coins (l : Launch) (D : va_G) (cI cZ : ClassId) (a : Nat) (b : Nat) (f : Nat → Int32) (p : Nat) (hp : p < 5) : zI l yX6_coins cX6_coins 2 .int 0 0 D cI cZ [.ref a, .int (nI p)] [(a, .inr (6, [.ref b])), (b, .inl (cI, 36, .inl f))] (fun (r : Int32) (u : Unit) => r = f (20 + p)) (fun (u : Unit) => [(a, .inr (6, [.ref b])), (b, .inl (cI, 36, .inl f))]) := by
  refine zI_of (by decide) (Nat.le_of_ble_eq_true rfl) ?_
  intro pP eE sS mM aA bB mT cC A ls Z hP hD hS hl
  have hx := Z.1
  have hb := Z.2.1
  have hown := Z.2.2.2.2.2.1
  have hts := Z.2.2.2.2.1
  have Z : zAt pP sS mM aA mT cC D cI cZ A "SurpriseTax$State" cX6_coins 2 (some .int) := Z
  have hl : lv_has ls 2 [(0, .ref a), (1, .int (nI p))] := hl
  obtain ⟨H, hH⟩ : ∃ H, H = sS.heap := ⟨_, rfl⟩
  have hP : va_P D vwCl [(a, .inr (6, [.ref b])), (b, .inl (cI, 36, .inl f))] H := by rw [hH]; exact hP
  have hS : va_S A sS.heap H [] := by rw [hH]; exact hS
  rw [← hH]
  clear hH
  obtain ⟨locs, hlo⟩ : ∃ q : List Loc, q = [] := ⟨_, rfl⟩
  rw [← hlo] at hS ⊢
  clear hlo
  refine lv_aload_n hx hb dX6_coins_0 rfl (lv_at hl 0 rfl) ?_
  refine z_get (ci := 6) (v := .ref b) Z zin6 hP 0 rfl rfl 0 (by decide) zm110 rfl rfl dX6_coins_1 ?_
  refine lv_bipush (v := nI 20) hx hb dX6_coins_4 (by decide) ?_
  refine lv_iload_n hx hb dX6_coins_6 rfl (lv_at hl 1 rfl) ?_
  refine lv_iadd hx hb dX6_coins_7 ?_
  refine z_top (y := nI (20 + p)) (z_add _ _) ?_
  refine z_iald (n := 36) (f := f) (j := 20 + p) Z hP 1 rfl (by omega) (by decide) dX6_coins_8 ?_
  exact z_iret Z () rfl hP hS dX6_coins_9

theorem dX6_setCoins_0 : decode cX6_setCoins 0 = .ok (.aload_n 0, 1) := by decide +kernel
theorem dX6_setCoins_1 : decode cX6_setCoins 1 = .ok (.getfield 11, 3) := by decide +kernel
theorem dX6_setCoins_4 : decode cX6_setCoins 4 = .ok (.bipush 20, 2) := by decide +kernel
theorem dX6_setCoins_6 : decode cX6_setCoins 6 = .ok (.iload_n 1, 1) := by decide +kernel
theorem dX6_setCoins_7 : decode cX6_setCoins 7 = .ok (.iadd, 1) := by decide +kernel
theorem dX6_setCoins_8 : decode cX6_setCoins 8 = .ok (.iload_n 2, 1) := by decide +kernel
theorem dX6_setCoins_9 : decode cX6_setCoins 9 = .ok (.iastore, 1) := by decide +kernel
theorem dX6_setCoins_10 : decode cX6_setCoins 10 = .ok (.return_, 1) := by decide +kernel
theorem zd_X6_setCoins : yX6_setCoins.cls ≠ "java/lang/invoke/MethodHandle" ∧ yX6_setCoins.cls ≠ "java/lang/invoke/VarHandle" ∧ (parseMethodDescriptor yX6_setCoins.desc).map (fun d => d.parameters.length) = some 2 := by decide +kernel
set_option maxHeartbeats 4000000 in
set_option maxRecDepth 100000 in
theorem zc_X6_setCoins (l : Launch) (D : va_G) (cI cZ : ClassId) (a : Nat) (b : Nat) (f : Nat → Int32) (p : Nat) (v : Int32) (hp : p < 5) : zV l yX6_setCoins cX6_setCoins 3 0 0 D cI cZ [.ref a, .int (nI p), .int v] [(a, .inr (6, [.ref b])), (b, .inl (cI, 36, .inl f))] (fun (u : Unit) => True) (fun (u : Unit) => [(a, .inr (6, [.ref b])), (b, .inl (cI, 36, .inl (upd f (20 + p) v)))]) := by
  refine zV_of (by decide) (Nat.le_of_ble_eq_true rfl) ?_
  intro pP eE sS mM aA bB mT cC A ls Z hP hD hS hl
  have hx := Z.1
  have hb := Z.2.1
  have hown := Z.2.2.2.2.2.1
  have hts := Z.2.2.2.2.1
  have Z : zAt pP sS mM aA mT cC D cI cZ A "SurpriseTax$State" cX6_setCoins 3 none := Z
  have hl : lv_has ls 3 [(0, .ref a), (1, .int (nI p)), (2, .int v)] := hl
  obtain ⟨H, hH⟩ : ∃ H, H = sS.heap := ⟨_, rfl⟩
  have hP : va_P D vwCl [(a, .inr (6, [.ref b])), (b, .inl (cI, 36, .inl f))] H := by rw [hH]; exact hP
  have hS : va_S A sS.heap H [] := by rw [hH]; exact hS
  rw [← hH]
  clear hH
  obtain ⟨locs, hlo⟩ : ∃ q : List Loc, q = [] := ⟨_, rfl⟩
  rw [← hlo] at hS ⊢
  clear hlo
  refine lv_aload_n hx hb dX6_setCoins_0 rfl (lv_at hl 0 rfl) ?_
  refine z_get (ci := 6) (v := .ref b) Z zin6 hP 0 rfl rfl 0 (by decide) zm110 rfl rfl dX6_setCoins_1 ?_
  refine lv_bipush (v := nI 20) hx hb dX6_setCoins_4 (by decide) ?_
  refine lv_iload_n hx hb dX6_setCoins_6 rfl (lv_at hl 1 rfl) ?_
  refine lv_iadd hx hb dX6_setCoins_7 ?_
  refine z_top (y := nI (20 + p)) (z_add _ _) ?_
  refine lv_iload_n hx hb dX6_setCoins_8 rfl (lv_at hl 2 rfl) ?_
  refine z_iast (n := 36) (f := f) (j := 20 + p) (x := v) Z hP hD hS 1 rfl (by omega) (by decide) dX6_setCoins_9 (fun H locs hP hD hS => ?_)
  have hP : va_P D vwCl [(a, .inr (6, [.ref b])), (b, .inl (cI, 36, .inl (upd f (20 + p) v)))] H := hP
  have hD : va_D A [(a, .inr (6, [.ref b])), (b, .inl (cI, 36, .inl (upd f (20 + p) v)))] := hD
  exact z_vret Z () trivial hP hS dX6_setCoins_10

theorem dX6_pay_0 : decode cX6_pay 0 = .ok (.aload_n 0, 1) := by decide +kernel
theorem dX6_pay_1 : decode cX6_pay 1 = .ok (.getfield 11, 3) := by decide +kernel
theorem dX6_pay_4 : decode cX6_pay 4 = .ok (.bipush 20, 2) := by decide +kernel
theorem dX6_pay_6 : decode cX6_pay 6 = .ok (.iload_n 1, 1) := by decide +kernel
theorem dX6_pay_7 : decode cX6_pay 7 = .ok (.iadd, 1) := by decide +kernel
theorem dX6_pay_8 : decode cX6_pay 8 = .ok (.dup2, 1) := by decide +kernel
theorem dX6_pay_9 : decode cX6_pay 9 = .ok (.iaload, 1) := by decide +kernel
theorem dX6_pay_10 : decode cX6_pay 10 = .ok (.iload_n 2, 1) := by decide +kernel
theorem dX6_pay_11 : decode cX6_pay 11 = .ok (.isub, 1) := by decide +kernel
theorem dX6_pay_12 : decode cX6_pay 12 = .ok (.iastore, 1) := by decide +kernel
theorem dX6_pay_13 : decode cX6_pay 13 = .ok (.return_, 1) := by decide +kernel
theorem zd_X6_pay : yX6_pay.cls ≠ "java/lang/invoke/MethodHandle" ∧ yX6_pay.cls ≠ "java/lang/invoke/VarHandle" ∧ (parseMethodDescriptor yX6_pay.desc).map (fun d => d.parameters.length) = some 2 := by decide +kernel
set_option maxHeartbeats 4000000 in
set_option maxRecDepth 100000 in
theorem zc_X6_pay (l : Launch) (D : va_G) (cI cZ : ClassId) (a : Nat) (b : Nat) (f : Nat → Int32) (p : Nat) (v : Int32) (hp : p < 5) : zV l yX6_pay cX6_pay 3 0 0 D cI cZ [.ref a, .int (nI p), .int v] [(a, .inr (6, [.ref b])), (b, .inl (cI, 36, .inl f))] (fun (u : Unit) => True) (fun (u : Unit) => [(a, .inr (6, [.ref b])), (b, .inl (cI, 36, .inl (upd f (20 + p) (f (20 + p) - v))))]) := by
  refine zV_of (by decide) (Nat.le_of_ble_eq_true rfl) ?_
  intro pP eE sS mM aA bB mT cC A ls Z hP hD hS hl
  have hx := Z.1
  have hb := Z.2.1
  have hown := Z.2.2.2.2.2.1
  have hts := Z.2.2.2.2.1
  have Z : zAt pP sS mM aA mT cC D cI cZ A "SurpriseTax$State" cX6_pay 3 none := Z
  have hl : lv_has ls 3 [(0, .ref a), (1, .int (nI p)), (2, .int v)] := hl
  obtain ⟨H, hH⟩ : ∃ H, H = sS.heap := ⟨_, rfl⟩
  have hP : va_P D vwCl [(a, .inr (6, [.ref b])), (b, .inl (cI, 36, .inl f))] H := by rw [hH]; exact hP
  have hS : va_S A sS.heap H [] := by rw [hH]; exact hS
  rw [← hH]
  clear hH
  obtain ⟨locs, hlo⟩ : ∃ q : List Loc, q = [] := ⟨_, rfl⟩
  rw [← hlo] at hS ⊢
  clear hlo
  refine lv_aload_n hx hb dX6_pay_0 rfl (lv_at hl 0 rfl) ?_
  refine z_get (ci := 6) (v := .ref b) Z zin6 hP 0 rfl rfl 0 (by decide) zm110 rfl rfl dX6_pay_1 ?_
  refine lv_bipush (v := nI 20) hx hb dX6_pay_4 (by decide) ?_
  refine lv_iload_n hx hb dX6_pay_6 rfl (lv_at hl 1 rfl) ?_
  refine lv_iadd hx hb dX6_pay_7 ?_
  refine z_top (y := nI (20 + p)) (z_add _ _) ?_
  refine lv_dup2_11 hx hb dX6_pay_8 rfl rfl ?_
  refine z_iald (n := 36) (f := f) (j := 20 + p) Z hP 1 rfl (by omega) (by decide) dX6_pay_9 ?_
  refine lv_iload_n hx hb dX6_pay_10 rfl (lv_at hl 2 rfl) ?_
  refine lv_isub hx hb dX6_pay_11 ?_
  refine z_top (y := (f (20 + p)) - v) rfl ?_
  refine z_iast (n := 36) (f := f) (j := 20 + p) (x := (f (20 + p)) - v) Z hP hD hS 1 rfl (by omega) (by decide) dX6_pay_12 (fun H locs hP hD hS => ?_)
  have hP : va_P D vwCl [(a, .inr (6, [.ref b])), (b, .inl (cI, 36, .inl (upd f (20 + p) ((f (20 + p)) - v))))] H := hP
  have hD : va_D A [(a, .inr (6, [.ref b])), (b, .inl (cI, 36, .inl (upd f (20 + p) ((f (20 + p)) - v))))] := hD
  have e_1 : upd f (20 + p) ((f (20 + p)) - v) = upd f (20 + p) (f (20 + p) - v) := by (first | rfl | (simp []; done) | (simp_all []; done))
  have hP : va_P D vwCl [(a, .inr (6, [.ref b])), (b, .inl (cI, 36, .inl (upd f (20 + p) (f (20 + p) - v))))] H := Eq.subst (motive := fun zz_ => va_P D vwCl [(a, .inr (6, [.ref b])), (b, .inl (cI, 36, .inl zz_))] H) e_1 hP
  have hD : va_D A [(a, .inr (6, [.ref b])), (b, .inl (cI, 36, .inl (upd f (20 + p) (f (20 + p) - v))))] := zD_of hD rfl
  exact z_vret Z () trivial hP hS dX6_pay_13

theorem dX6_declared_0 : decode cX6_declared 0 = .ok (.aload_n 0, 1) := by decide +kernel
theorem dX6_declared_1 : decode cX6_declared 1 = .ok (.getfield 11, 3) := by decide +kernel
theorem dX6_declared_4 : decode cX6_declared 4 = .ok (.bipush 25, 2) := by decide +kernel
theorem dX6_declared_6 : decode cX6_declared 6 = .ok (.iload_n 1, 1) := by decide +kernel
theorem dX6_declared_7 : decode cX6_declared 7 = .ok (.iadd, 1) := by decide +kernel
theorem dX6_declared_8 : decode cX6_declared 8 = .ok (.iaload, 1) := by decide +kernel
theorem dX6_declared_9 : decode cX6_declared 9 = .ok (.ireturn, 1) := by decide +kernel
theorem zd_X6_declared : yX6_declared.cls ≠ "java/lang/invoke/MethodHandle" ∧ yX6_declared.cls ≠ "java/lang/invoke/VarHandle" ∧ (parseMethodDescriptor yX6_declared.desc).map (fun d => d.parameters.length) = some 1 := by decide +kernel
set_option maxHeartbeats 4000000 in
set_option maxRecDepth 100000 in
theorem zc_X6_declared (l : Launch) (D : va_G) (cI cZ : ClassId) (a : Nat) (b : Nat) (f : Nat → Int32) (p : Nat) (hp : p < 5) : zI l yX6_declared cX6_declared 2 .int 0 0 D cI cZ [.ref a, .int (nI p)] [(a, .inr (6, [.ref b])), (b, .inl (cI, 36, .inl f))] (fun (r : Int32) (u : Unit) => r = f (25 + p)) (fun (u : Unit) => [(a, .inr (6, [.ref b])), (b, .inl (cI, 36, .inl f))]) := by
  refine zI_of (by decide) (Nat.le_of_ble_eq_true rfl) ?_
  intro pP eE sS mM aA bB mT cC A ls Z hP hD hS hl
  have hx := Z.1
  have hb := Z.2.1
  have hown := Z.2.2.2.2.2.1
  have hts := Z.2.2.2.2.1
  have Z : zAt pP sS mM aA mT cC D cI cZ A "SurpriseTax$State" cX6_declared 2 (some .int) := Z
  have hl : lv_has ls 2 [(0, .ref a), (1, .int (nI p))] := hl
  obtain ⟨H, hH⟩ : ∃ H, H = sS.heap := ⟨_, rfl⟩
  have hP : va_P D vwCl [(a, .inr (6, [.ref b])), (b, .inl (cI, 36, .inl f))] H := by rw [hH]; exact hP
  have hS : va_S A sS.heap H [] := by rw [hH]; exact hS
  rw [← hH]
  clear hH
  obtain ⟨locs, hlo⟩ : ∃ q : List Loc, q = [] := ⟨_, rfl⟩
  rw [← hlo] at hS ⊢
  clear hlo
  refine lv_aload_n hx hb dX6_declared_0 rfl (lv_at hl 0 rfl) ?_
  refine z_get (ci := 6) (v := .ref b) Z zin6 hP 0 rfl rfl 0 (by decide) zm110 rfl rfl dX6_declared_1 ?_
  refine lv_bipush (v := nI 25) hx hb dX6_declared_4 (by decide) ?_
  refine lv_iload_n hx hb dX6_declared_6 rfl (lv_at hl 1 rfl) ?_
  refine lv_iadd hx hb dX6_declared_7 ?_
  refine z_top (y := nI (25 + p)) (z_add _ _) ?_
  refine z_iald (n := 36) (f := f) (j := 25 + p) Z hP 1 rfl (by omega) (by decide) dX6_declared_8 ?_
  exact z_iret Z () rfl hP hS dX6_declared_9

theorem dX6_setDeclared_0 : decode cX6_setDeclared 0 = .ok (.aload_n 0, 1) := by decide +kernel
theorem dX6_setDeclared_1 : decode cX6_setDeclared 1 = .ok (.getfield 11, 3) := by decide +kernel
theorem dX6_setDeclared_4 : decode cX6_setDeclared 4 = .ok (.bipush 25, 2) := by decide +kernel
theorem dX6_setDeclared_6 : decode cX6_setDeclared 6 = .ok (.iload_n 1, 1) := by decide +kernel
theorem dX6_setDeclared_7 : decode cX6_setDeclared 7 = .ok (.iadd, 1) := by decide +kernel
theorem dX6_setDeclared_8 : decode cX6_setDeclared 8 = .ok (.iload_n 2, 1) := by decide +kernel
theorem dX6_setDeclared_9 : decode cX6_setDeclared 9 = .ok (.iastore, 1) := by decide +kernel
theorem dX6_setDeclared_10 : decode cX6_setDeclared 10 = .ok (.return_, 1) := by decide +kernel
theorem zd_X6_setDeclared : yX6_setDeclared.cls ≠ "java/lang/invoke/MethodHandle" ∧ yX6_setDeclared.cls ≠ "java/lang/invoke/VarHandle" ∧ (parseMethodDescriptor yX6_setDeclared.desc).map (fun d => d.parameters.length) = some 2 := by decide +kernel
set_option maxHeartbeats 4000000 in
set_option maxRecDepth 100000 in
theorem zc_X6_setDeclared (l : Launch) (D : va_G) (cI cZ : ClassId) (a : Nat) (b : Nat) (f : Nat → Int32) (p : Nat) (v : Int32) (hp : p < 5) : zV l yX6_setDeclared cX6_setDeclared 3 0 0 D cI cZ [.ref a, .int (nI p), .int v] [(a, .inr (6, [.ref b])), (b, .inl (cI, 36, .inl f))] (fun (u : Unit) => True) (fun (u : Unit) => [(a, .inr (6, [.ref b])), (b, .inl (cI, 36, .inl (upd f (25 + p) v)))]) := by
  refine zV_of (by decide) (Nat.le_of_ble_eq_true rfl) ?_
  intro pP eE sS mM aA bB mT cC A ls Z hP hD hS hl
  have hx := Z.1
  have hb := Z.2.1
  have hown := Z.2.2.2.2.2.1
  have hts := Z.2.2.2.2.1
  have Z : zAt pP sS mM aA mT cC D cI cZ A "SurpriseTax$State" cX6_setDeclared 3 none := Z
  have hl : lv_has ls 3 [(0, .ref a), (1, .int (nI p)), (2, .int v)] := hl
  obtain ⟨H, hH⟩ : ∃ H, H = sS.heap := ⟨_, rfl⟩
  have hP : va_P D vwCl [(a, .inr (6, [.ref b])), (b, .inl (cI, 36, .inl f))] H := by rw [hH]; exact hP
  have hS : va_S A sS.heap H [] := by rw [hH]; exact hS
  rw [← hH]
  clear hH
  obtain ⟨locs, hlo⟩ : ∃ q : List Loc, q = [] := ⟨_, rfl⟩
  rw [← hlo] at hS ⊢
  clear hlo
  refine lv_aload_n hx hb dX6_setDeclared_0 rfl (lv_at hl 0 rfl) ?_
  refine z_get (ci := 6) (v := .ref b) Z zin6 hP 0 rfl rfl 0 (by decide) zm110 rfl rfl dX6_setDeclared_1 ?_
  refine lv_bipush (v := nI 25) hx hb dX6_setDeclared_4 (by decide) ?_
  refine lv_iload_n hx hb dX6_setDeclared_6 rfl (lv_at hl 1 rfl) ?_
  refine lv_iadd hx hb dX6_setDeclared_7 ?_
  refine z_top (y := nI (25 + p)) (z_add _ _) ?_
  refine lv_iload_n hx hb dX6_setDeclared_8 rfl (lv_at hl 2 rfl) ?_
  refine z_iast (n := 36) (f := f) (j := 25 + p) (x := v) Z hP hD hS 1 rfl (by omega) (by decide) dX6_setDeclared_9 (fun H locs hP hD hS => ?_)
  have hP : va_P D vwCl [(a, .inr (6, [.ref b])), (b, .inl (cI, 36, .inl (upd f (25 + p) v)))] H := hP
  have hD : va_D A [(a, .inr (6, [.ref b])), (b, .inl (cI, 36, .inl (upd f (25 + p) v)))] := hD
  exact z_vret Z () trivial hP hS dX6_setDeclared_10

theorem dX6_heard_0 : decode cX6_heard 0 = .ok (.aload_n 0, 1) := by decide +kernel
theorem dX6_heard_1 : decode cX6_heard 1 = .ok (.getfield 11, 3) := by decide +kernel
theorem dX6_heard_4 : decode cX6_heard 4 = .ok (.bipush 30, 2) := by decide +kernel
theorem dX6_heard_6 : decode cX6_heard 6 = .ok (.iload_n 1, 1) := by decide +kernel
theorem dX6_heard_7 : decode cX6_heard 7 = .ok (.iadd, 1) := by decide +kernel
theorem dX6_heard_8 : decode cX6_heard 8 = .ok (.iaload, 1) := by decide +kernel
theorem dX6_heard_9 : decode cX6_heard 9 = .ok (.ireturn, 1) := by decide +kernel
theorem zd_X6_heard : yX6_heard.cls ≠ "java/lang/invoke/MethodHandle" ∧ yX6_heard.cls ≠ "java/lang/invoke/VarHandle" ∧ (parseMethodDescriptor yX6_heard.desc).map (fun d => d.parameters.length) = some 1 := by decide +kernel
set_option maxHeartbeats 4000000 in
set_option maxRecDepth 100000 in
theorem zc_X6_heard (l : Launch) (D : va_G) (cI cZ : ClassId) (a : Nat) (b : Nat) (f : Nat → Int32) (p : Nat) (hp : p < 5) : zI l yX6_heard cX6_heard 2 .int 0 0 D cI cZ [.ref a, .int (nI p)] [(a, .inr (6, [.ref b])), (b, .inl (cI, 36, .inl f))] (fun (r : Int32) (u : Unit) => r = f (30 + p)) (fun (u : Unit) => [(a, .inr (6, [.ref b])), (b, .inl (cI, 36, .inl f))]) := by
  refine zI_of (by decide) (Nat.le_of_ble_eq_true rfl) ?_
  intro pP eE sS mM aA bB mT cC A ls Z hP hD hS hl
  have hx := Z.1
  have hb := Z.2.1
  have hown := Z.2.2.2.2.2.1
  have hts := Z.2.2.2.2.1
  have Z : zAt pP sS mM aA mT cC D cI cZ A "SurpriseTax$State" cX6_heard 2 (some .int) := Z
  have hl : lv_has ls 2 [(0, .ref a), (1, .int (nI p))] := hl
  obtain ⟨H, hH⟩ : ∃ H, H = sS.heap := ⟨_, rfl⟩
  have hP : va_P D vwCl [(a, .inr (6, [.ref b])), (b, .inl (cI, 36, .inl f))] H := by rw [hH]; exact hP
  have hS : va_S A sS.heap H [] := by rw [hH]; exact hS
  rw [← hH]
  clear hH
  obtain ⟨locs, hlo⟩ : ∃ q : List Loc, q = [] := ⟨_, rfl⟩
  rw [← hlo] at hS ⊢
  clear hlo
  refine lv_aload_n hx hb dX6_heard_0 rfl (lv_at hl 0 rfl) ?_
  refine z_get (ci := 6) (v := .ref b) Z zin6 hP 0 rfl rfl 0 (by decide) zm110 rfl rfl dX6_heard_1 ?_
  refine lv_bipush (v := nI 30) hx hb dX6_heard_4 (by decide) ?_
  refine lv_iload_n hx hb dX6_heard_6 rfl (lv_at hl 1 rfl) ?_
  refine lv_iadd hx hb dX6_heard_7 ?_
  refine z_top (y := nI (30 + p)) (z_add _ _) ?_
  refine z_iald (n := 36) (f := f) (j := 30 + p) Z hP 1 rfl (by omega) (by decide) dX6_heard_8 ?_
  exact z_iret Z () rfl hP hS dX6_heard_9

theorem dX6_setHeard_0 : decode cX6_setHeard 0 = .ok (.aload_n 0, 1) := by decide +kernel
theorem dX6_setHeard_1 : decode cX6_setHeard 1 = .ok (.getfield 11, 3) := by decide +kernel
theorem dX6_setHeard_4 : decode cX6_setHeard 4 = .ok (.bipush 30, 2) := by decide +kernel
theorem dX6_setHeard_6 : decode cX6_setHeard 6 = .ok (.iload_n 1, 1) := by decide +kernel
theorem dX6_setHeard_7 : decode cX6_setHeard 7 = .ok (.iadd, 1) := by decide +kernel
theorem dX6_setHeard_8 : decode cX6_setHeard 8 = .ok (.iload_n 2, 1) := by decide +kernel
theorem dX6_setHeard_9 : decode cX6_setHeard 9 = .ok (.iastore, 1) := by decide +kernel
theorem dX6_setHeard_10 : decode cX6_setHeard 10 = .ok (.return_, 1) := by decide +kernel
theorem zd_X6_setHeard : yX6_setHeard.cls ≠ "java/lang/invoke/MethodHandle" ∧ yX6_setHeard.cls ≠ "java/lang/invoke/VarHandle" ∧ (parseMethodDescriptor yX6_setHeard.desc).map (fun d => d.parameters.length) = some 2 := by decide +kernel
set_option maxHeartbeats 4000000 in
set_option maxRecDepth 100000 in
theorem zc_X6_setHeard (l : Launch) (D : va_G) (cI cZ : ClassId) (a : Nat) (b : Nat) (f : Nat → Int32) (p : Nat) (v : Int32) (hp : p < 5) : zV l yX6_setHeard cX6_setHeard 3 0 0 D cI cZ [.ref a, .int (nI p), .int v] [(a, .inr (6, [.ref b])), (b, .inl (cI, 36, .inl f))] (fun (u : Unit) => True) (fun (u : Unit) => [(a, .inr (6, [.ref b])), (b, .inl (cI, 36, .inl (upd f (30 + p) v)))]) := by
  refine zV_of (by decide) (Nat.le_of_ble_eq_true rfl) ?_
  intro pP eE sS mM aA bB mT cC A ls Z hP hD hS hl
  have hx := Z.1
  have hb := Z.2.1
  have hown := Z.2.2.2.2.2.1
  have hts := Z.2.2.2.2.1
  have Z : zAt pP sS mM aA mT cC D cI cZ A "SurpriseTax$State" cX6_setHeard 3 none := Z
  have hl : lv_has ls 3 [(0, .ref a), (1, .int (nI p)), (2, .int v)] := hl
  obtain ⟨H, hH⟩ : ∃ H, H = sS.heap := ⟨_, rfl⟩
  have hP : va_P D vwCl [(a, .inr (6, [.ref b])), (b, .inl (cI, 36, .inl f))] H := by rw [hH]; exact hP
  have hS : va_S A sS.heap H [] := by rw [hH]; exact hS
  rw [← hH]
  clear hH
  obtain ⟨locs, hlo⟩ : ∃ q : List Loc, q = [] := ⟨_, rfl⟩
  rw [← hlo] at hS ⊢
  clear hlo
  refine lv_aload_n hx hb dX6_setHeard_0 rfl (lv_at hl 0 rfl) ?_
  refine z_get (ci := 6) (v := .ref b) Z zin6 hP 0 rfl rfl 0 (by decide) zm110 rfl rfl dX6_setHeard_1 ?_
  refine lv_bipush (v := nI 30) hx hb dX6_setHeard_4 (by decide) ?_
  refine lv_iload_n hx hb dX6_setHeard_6 rfl (lv_at hl 1 rfl) ?_
  refine lv_iadd hx hb dX6_setHeard_7 ?_
  refine z_top (y := nI (30 + p)) (z_add _ _) ?_
  refine lv_iload_n hx hb dX6_setHeard_8 rfl (lv_at hl 2 rfl) ?_
  refine z_iast (n := 36) (f := f) (j := 30 + p) (x := v) Z hP hD hS 1 rfl (by omega) (by decide) dX6_setHeard_9 (fun H locs hP hD hS => ?_)
  have hP : va_P D vwCl [(a, .inr (6, [.ref b])), (b, .inl (cI, 36, .inl (upd f (30 + p) v)))] H := hP
  have hD : va_D A [(a, .inr (6, [.ref b])), (b, .inl (cI, 36, .inl (upd f (30 + p) v)))] := hD
  exact z_vret Z () trivial hP hS dX6_setHeard_10

theorem dX6_isOpen_0 : decode cX6_isOpen 0 = .ok (.aload_n 0, 1) := by decide +kernel
theorem dX6_isOpen_1 : decode cX6_isOpen 1 = .ok (.iload_n 1, 1) := by decide +kernel
theorem dX6_isOpen_2 : decode cX6_isOpen 2 = .ok (.invokevirtual 27, 3) := by decide +kernel
theorem dX6_isOpen_5 : decode cX6_isOpen 5 = .ok (.bipush (-9), 2) := by decide +kernel
theorem dX6_isOpen_7 : decode cX6_isOpen 7 = .ok (.if_icmp .ne 17, 3) := by decide +kernel
theorem dX6_isOpen_10 : decode cX6_isOpen 10 = .ok (.aload_n 0, 1) := by decide +kernel
theorem dX6_isOpen_11 : decode cX6_isOpen 11 = .ok (.iload_n 1, 1) := by decide +kernel
theorem dX6_isOpen_12 : decode cX6_isOpen 12 = .ok (.invokevirtual 31, 3) := by decide +kernel
theorem dX6_isOpen_15 : decode cX6_isOpen 15 = .ok (.bipush (-9), 2) := by decide +kernel
theorem dX6_isOpen_17 : decode cX6_isOpen 17 = .ok (.if_icmp .ne 7, 3) := by decide +kernel
theorem dX6_isOpen_20 : decode cX6_isOpen 20 = .ok (.iconst 1, 1) := by decide +kernel
theorem dX6_isOpen_21 : decode cX6_isOpen 21 = .ok (.goto 4, 3) := by decide +kernel
theorem dX6_isOpen_24 : decode cX6_isOpen 24 = .ok (.iconst 0, 1) := by decide +kernel
theorem dX6_isOpen_25 : decode cX6_isOpen 25 = .ok (.ireturn, 1) := by decide +kernel
theorem zd_X6_isOpen : yX6_isOpen.cls ≠ "java/lang/invoke/MethodHandle" ∧ yX6_isOpen.cls ≠ "java/lang/invoke/VarHandle" ∧ (parseMethodDescriptor yX6_isOpen.desc).map (fun d => d.parameters.length) = some 1 := by decide +kernel
set_option maxHeartbeats 4000000 in
set_option maxRecDepth 100000 in
theorem zc_X6_isOpen (l : Launch) (D : va_G) (cI cZ : ClassId) (a : Nat) (b : Nat) (f : Nat → Int32) (p : Nat) (hp : p < 5) : zI l yX6_isOpen cX6_isOpen 2 .boolean 1 21 D cI cZ [.ref a, .int (nI p)] [(a, .inr (6, [.ref b])), (b, .inl (cI, 36, .inl f))] (fun (r : Int32) (u : Unit) => r = if f (25 + p) = -9 ∧ f (30 + p) = -9 then 1 else 0) (fun (u : Unit) => [(a, .inr (6, [.ref b])), (b, .inl (cI, 36, .inl f))]) := by
  refine zI_of (by decide) (Nat.le_of_ble_eq_true rfl) ?_
  intro pP eE sS mM aA bB mT cC A ls Z hP hD hS hl
  have hx := Z.1
  have hb := Z.2.1
  have hown := Z.2.2.2.2.2.1
  have hts := Z.2.2.2.2.1
  have Z : zAt pP sS mM aA mT cC D cI cZ A "SurpriseTax$State" cX6_isOpen 2 (some .boolean) := Z
  have hl : lv_has ls 2 [(0, .ref a), (1, .int (nI p))] := hl
  obtain ⟨H, hH⟩ : ∃ H, H = sS.heap := ⟨_, rfl⟩
  have hP : va_P D vwCl [(a, .inr (6, [.ref b])), (b, .inl (cI, 36, .inl f))] H := by rw [hH]; exact hP
  have hS : va_S A sS.heap H [] := by rw [hH]; exact hS
  rw [← hH]
  clear hH
  obtain ⟨locs, hlo⟩ : ∃ q : List Loc, q = [] := ⟨_, rfl⟩
  rw [← hlo] at hS ⊢
  clear hlo
  refine lv_aload_n hx hb dX6_isOpen_0 rfl (lv_at hl 0 rfl) ?_
  refine lv_iload_n hx hb dX6_isOpen_1 rfl (lv_at hl 1 rfl) ?_
  refine z_callVi (As := [.int (nI p)]) (rest := []) (ci := 6) (k0 := 0) Z hP hD hS hl.1 (zc_X6_declared l D cI cZ a b f p (by omega)) zm380 zm340 zm341 zm33 zm342 ⟨rfl, zd_X6_declared⟩ ⟨Nat.le_of_ble_eq_true rfl, Nat.le_of_ble_eq_true rfl⟩ ⟨Nat.zero_le _, Nat.zero_le _⟩ [0, 1] rfl (by decide) rfl rfl rfl (fun _ => rfl) rfl (Nat.le_of_ble_eq_true rfl) rfl dX6_isOpen_2 (fun r_1 u H locs h_2 hP hD hS => ?_)
  have hP : va_P D vwCl [(a, .inr (6, [.ref b])), (b, .inl (cI, 36, .inl f))] H := hP
  have hD : va_D A [(a, .inr (6, [.ref b])), (b, .inl (cI, 36, .inl f))] := hD
  have h_2 : r_1 = f (25 + p) := h_2
  subst h_2
  refine lv_bipush (v := -9) hx hb dX6_isOpen_5 (by decide) ?_
  refine lv_icmp_ne (tgt := 24) hx hb dX6_isOpen_7 (by decide) (fun c_3 => ?_) (fun c_3 => ?_)
  · have c_3 : ¬ ((f (25 + p)) = (-9)) := c_3
    refine lv_iconst (v := nI 0) hx hb dX6_isOpen_24 (by decide) ?_
    exact z_zret Z () (by decide) (by (first | rfl | (simp [nI_one, nI_zero, c_3]; done) | (simp_all [nI_one, nI_zero]; done))) hP hS dX6_isOpen_25
  · have c_3 : (f (25 + p)) = (-9) := c_3
    refine lv_aload_n hx hb dX6_isOpen_10 rfl (lv_at hl 0 rfl) ?_
    refine lv_iload_n hx hb dX6_isOpen_11 rfl (lv_at hl 1 rfl) ?_
    refine z_callVi (As := [.int (nI p)]) (rest := []) (ci := 6) (k0 := 0) Z hP hD hS hl.1 (zc_X6_heard l D cI cZ a b f p (by omega)) zm381 zm344 zm345 zm33 zm346 ⟨rfl, zd_X6_heard⟩ ⟨Nat.le_of_ble_eq_true rfl, Nat.le_of_ble_eq_true rfl⟩ ⟨Nat.zero_le _, Nat.zero_le _⟩ [0, 1] rfl (by decide) rfl rfl rfl (fun _ => rfl) rfl (Nat.le_of_ble_eq_true rfl) rfl dX6_isOpen_12 (fun r_4 u H locs h_5 hP hD hS => ?_)
    have hP : va_P D vwCl [(a, .inr (6, [.ref b])), (b, .inl (cI, 36, .inl f))] H := hP
    have hD : va_D A [(a, .inr (6, [.ref b])), (b, .inl (cI, 36, .inl f))] := hD
    have h_5 : r_4 = f (30 + p) := h_5
    subst h_5
    refine lv_bipush (v := -9) hx hb dX6_isOpen_15 (by decide) ?_
    refine lv_icmp_ne (tgt := 24) hx hb dX6_isOpen_17 (by decide) (fun c_6 => ?_) (fun c_6 => ?_)
    · have c_6 : ¬ ((f (30 + p)) = (-9)) := c_6
      refine lv_iconst (v := nI 0) hx hb dX6_isOpen_24 (by decide) ?_
      exact z_zret Z () (by decide) (by (first | rfl | (simp [nI_one, nI_zero, c_3, c_6]; done) | (simp_all [nI_one, nI_zero]; done))) hP hS dX6_isOpen_25
    · have c_6 : (f (30 + p)) = (-9) := c_6
      refine lv_iconst (v := nI 1) hx hb dX6_isOpen_20 (by decide) ?_
      refine lv_goto (tgt := 25) hx hb dX6_isOpen_21 (by decide) ?_
      exact z_zret Z () (by decide) (by (first | rfl | (simp [nI_one, nI_zero, c_3, c_6]; done) | (simp_all [nI_one, nI_zero]; done))) hP hS dX6_isOpen_25

theorem dX6_day_0 : decode cX6_day 0 = .ok (.aload_n 0, 1) := by decide +kernel
theorem dX6_day_1 : decode cX6_day 1 = .ok (.getfield 11, 3) := by decide +kernel
theorem dX6_day_4 : decode cX6_day 4 = .ok (.bipush 35, 2) := by decide +kernel
theorem dX6_day_6 : decode cX6_day 6 = .ok (.iaload, 1) := by decide +kernel
theorem dX6_day_7 : decode cX6_day 7 = .ok (.ireturn, 1) := by decide +kernel
theorem zd_X6_day : yX6_day.cls ≠ "java/lang/invoke/MethodHandle" ∧ yX6_day.cls ≠ "java/lang/invoke/VarHandle" ∧ (parseMethodDescriptor yX6_day.desc).map (fun d => d.parameters.length) = some 0 := by decide +kernel
set_option maxHeartbeats 4000000 in
set_option maxRecDepth 100000 in
theorem zc_X6_day (l : Launch) (D : va_G) (cI cZ : ClassId) (a : Nat) (b : Nat) (f : Nat → Int32) : zI l yX6_day cX6_day 1 .int 0 0 D cI cZ [.ref a] [(a, .inr (6, [.ref b])), (b, .inl (cI, 36, .inl f))] (fun (r : Int32) (u : Unit) => r = f 35) (fun (u : Unit) => [(a, .inr (6, [.ref b])), (b, .inl (cI, 36, .inl f))]) := by
  refine zI_of (by decide) (Nat.le_of_ble_eq_true rfl) ?_
  intro pP eE sS mM aA bB mT cC A ls Z hP hD hS hl
  have hx := Z.1
  have hb := Z.2.1
  have hown := Z.2.2.2.2.2.1
  have hts := Z.2.2.2.2.1
  have Z : zAt pP sS mM aA mT cC D cI cZ A "SurpriseTax$State" cX6_day 1 (some .int) := Z
  have hl : lv_has ls 1 [(0, .ref a)] := hl
  obtain ⟨H, hH⟩ : ∃ H, H = sS.heap := ⟨_, rfl⟩
  have hP : va_P D vwCl [(a, .inr (6, [.ref b])), (b, .inl (cI, 36, .inl f))] H := by rw [hH]; exact hP
  have hS : va_S A sS.heap H [] := by rw [hH]; exact hS
  rw [← hH]
  clear hH
  obtain ⟨locs, hlo⟩ : ∃ q : List Loc, q = [] := ⟨_, rfl⟩
  rw [← hlo] at hS ⊢
  clear hlo
  refine lv_aload_n hx hb dX6_day_0 rfl (lv_at hl 0 rfl) ?_
  refine z_get (ci := 6) (v := .ref b) Z zin6 hP 0 rfl rfl 0 (by decide) zm110 rfl rfl dX6_day_1 ?_
  refine lv_bipush (v := nI 35) hx hb dX6_day_4 (by decide) ?_
  refine z_iald (n := 36) (f := f) (j := 35) Z hP 1 rfl (by decide) (by decide) dX6_day_6 ?_
  exact z_iret Z () rfl hP hS dX6_day_7

theorem dX6_forgetNews_0 : decode cX6_forgetNews 0 = .ok (.iconst 0, 1) := by decide +kernel
theorem dX6_forgetNews_1 : decode cX6_forgetNews 1 = .ok (.istore_n 1, 1) := by decide +kernel
theorem dX6_forgetNews_2 : decode cX6_forgetNews 2 = .ok (.iload_n 1, 1) := by decide +kernel
theorem dX6_forgetNews_3 : decode cX6_forgetNews 3 = .ok (.iconst 5, 1) := by decide +kernel
theorem dX6_forgetNews_4 : decode cX6_forgetNews 4 = .ok (.if_icmp .ge 23, 3) := by decide +kernel
theorem dX6_forgetNews_7 : decode cX6_forgetNews 7 = .ok (.aload_n 0, 1) := by decide +kernel
theorem dX6_forgetNews_8 : decode cX6_forgetNews 8 = .ok (.iload_n 1, 1) := by decide +kernel
theorem dX6_forgetNews_9 : decode cX6_forgetNews 9 = .ok (.bipush (-9), 2) := by decide +kernel
theorem dX6_forgetNews_11 : decode cX6_forgetNews 11 = .ok (.invokevirtual 34, 3) := by decide +kernel
theorem dX6_forgetNews_14 : decode cX6_forgetNews 14 = .ok (.aload_n 0, 1) := by decide +kernel
theorem dX6_forgetNews_15 : decode cX6_forgetNews 15 = .ok (.iload_n 1, 1) := by decide +kernel
theorem dX6_forgetNews_16 : decode cX6_forgetNews 16 = .ok (.bipush (-9), 2) := by decide +kernel
theorem dX6_forgetNews_18 : decode cX6_forgetNews 18 = .ok (.invokevirtual 38, 3) := by decide +kernel
theorem dX6_forgetNews_21 : decode cX6_forgetNews 21 = .ok (.iinc 1 1, 3) := by decide +kernel
theorem dX6_forgetNews_24 : decode cX6_forgetNews 24 = .ok (.goto (-22), 3) := by decide +kernel
theorem dX6_forgetNews_27 : decode cX6_forgetNews 27 = .ok (.return_, 1) := by decide +kernel
theorem zd_X6_forgetNews : yX6_forgetNews.cls ≠ "java/lang/invoke/MethodHandle" ∧ yX6_forgetNews.cls ≠ "java/lang/invoke/VarHandle" ∧ (parseMethodDescriptor yX6_forgetNews.desc).map (fun d => d.parameters.length) = some 0 := by decide +kernel
set_option maxHeartbeats 4000000 in
set_option maxRecDepth 100000 in
theorem zc_X6_forgetNews (l : Launch) (D : va_G) (cI cZ : ClassId) (a : Nat) (b : Nat) (f : Nat → Int32) : zV l yX6_forgetNews cX6_forgetNews 2 1 22 D cI cZ [.ref a] [(a, .inr (6, [.ref b])), (b, .inl (cI, 36, .inl f))] (fun (u : Unit) => True) (fun (u : Unit) => [(a, .inr (6, [.ref b])), (b, .inl (cI, 36, .inl (zfg f 5)))]) := by
  refine zV_of (by decide) (Nat.le_of_ble_eq_true rfl) ?_
  intro pP eE sS mM aA bB mT cC A ls Z hP hD hS hl
  have hx := Z.1
  have hb := Z.2.1
  have hown := Z.2.2.2.2.2.1
  have hts := Z.2.2.2.2.1
  have Z : zAt pP sS mM aA mT cC D cI cZ A "SurpriseTax$State" cX6_forgetNews 2 none := Z
  have hl : lv_has ls 2 [(0, .ref a)] := hl
  obtain ⟨H, hH⟩ : ∃ H, H = sS.heap := ⟨_, rfl⟩
  have hP : va_P D vwCl [(a, .inr (6, [.ref b])), (b, .inl (cI, 36, .inl f))] H := by rw [hH]; exact hP
  have hS : va_S A sS.heap H [] := by rw [hH]; exact hS
  rw [← hH]
  clear hH
  obtain ⟨locs, hlo⟩ : ∃ q : List Loc, q = [] := ⟨_, rfl⟩
  rw [← hlo] at hS ⊢
  clear hlo
  refine lv_iconst (v := nI 0) hx hb dX6_forgetNews_0 (by decide) ?_
  refine lv_istore_n (lv' := [(1, .int (nI 0)), (0, .ref a)]) hx hb dX6_forgetNews_1 rfl hl (by decide) rfl (fun ls hl => ?_)
  have e_2 : f = zfg f 0 := by first | rfl | exact (zfg_0 f).symm
  have hP : va_P D vwCl [(a, .inr (6, [.ref b])), (b, .inl (cI, 36, .inl (zfg f 0)))] H := Eq.subst (motive := fun zz_ => va_P D vwCl [(a, .inr (6, [.ref b])), (b, .inl (cI, 36, .inl zz_))] H) e_2 hP
  have hD : va_D A [(a, .inr (6, [.ref b])), (b, .inl (cI, 36, .inl (zfg f 0)))] := zD_of hD rfl
  have hl : lv_has ls 2 [(1, .int (nI 0)), (0, .ref a)] := lv_sub hl [0, 1] rfl
  refine z_loop (fun i H locs ls => va_P D vwCl [(a, .inr (6, [.ref b])), (b, .inl (cI, 36, .inl (zfg f i)))] H ∧ va_D A [(a, .inr (6, [.ref b])), (b, .inl (cI, 36, .inl (zfg f i)))] ∧ va_S A sS.heap H locs ∧ lv_has ls 2 [(1, .int (nI i)), (0, .ref a)]) (5) (lo := 0) (by omega) ⟨hP, hD, hS, hl⟩ (fun i hi_i ih_1 H locs ls hI => ?_)
  obtain ⟨hP, hD, hS, hl⟩ := hI
  have hP : va_P D vwCl [(a, .inr (6, [.ref b])), (b, .inl (cI, 36, .inl (zfg f i)))] H := hP
  have hD : va_D A [(a, .inr (6, [.ref b])), (b, .inl (cI, 36, .inl (zfg f i)))] := hD
  have hl : lv_has ls 2 [(1, .int (nI i)), (0, .ref a)] := hl
  refine lv_iload_n hx hb dX6_forgetNews_2 rfl (lv_at hl 0 rfl) ?_
  refine lv_iconst (v := nI 5) hx hb dX6_forgetNews_3 (by decide) ?_
  refine lv_icmp_ge (tgt := 27) hx hb dX6_forgetNews_4 (by decide) (fun c_3 => ?_) (fun c_3 => ?_)
  · have c_3 := zle (i := 5) (j := i) (by decide) (by omega) c_3
    have hE_ : 5 = i := by omega
    subst hE_
    exact z_vret Z () trivial hP hS dX6_forgetNews_27
  · have c_3 := znle (i := 5) (j := i) (by decide) (by omega) c_3
    refine lv_aload_n hx hb dX6_forgetNews_7 rfl (lv_at hl 1 rfl) ?_
    refine lv_iload_n hx hb dX6_forgetNews_8 rfl (lv_at hl 0 rfl) ?_
    refine lv_bipush (v := -9) hx hb dX6_forgetNews_9 (by decide) ?_
    refine z_callVv (As := [.int (nI i), .int (-9)]) (rest := []) (ci := 6) (k0 := 0) Z hP hD hS hl.1 (zc_X6_setDeclared l D cI cZ a b (zfg f i) i (-9) (by omega)) zm102 zm103 zm104 zm33 zm105 ⟨rfl, zd_X6_setDeclared⟩ ⟨Nat.le_of_ble_eq_true rfl, Nat.le_of_ble_eq_true rfl⟩ ⟨Nat.zero_le _, Nat.zero_le _⟩ [0, 1] rfl (by decide) rfl rfl rfl (fun _ => rfl) rfl (Nat.le_of_ble_eq_true rfl) rfl dX6_forgetNews_11 (fun u H locs h_5 hP hD hS => ?_)
    have hP : va_P D vwCl [(a, .inr (6, [.ref b])), (b, .inl (cI, 36, .inl (upd (zfg f i) (25 + i) (-9))))] H := hP
    have hD : va_D A [(a, .inr (6, [.ref b])), (b, .inl (cI, 36, .inl (upd (zfg f i) (25 + i) (-9))))] := hD
    refine lv_aload_n hx hb dX6_forgetNews_14 rfl (lv_at hl 1 rfl) ?_
    refine lv_iload_n hx hb dX6_forgetNews_15 rfl (lv_at hl 0 rfl) ?_
    refine lv_bipush (v := -9) hx hb dX6_forgetNews_16 (by decide) ?_
    refine z_callVv (As := [.int (nI i), .int (-9)]) (rest := []) (ci := 6) (k0 := 0) Z hP hD hS hl.1 (zc_X6_setHeard l D cI cZ a b (upd (zfg f i) (25 + i) (-9)) i (-9) (by omega)) zm106 zm107 zm108 zm33 zm109 ⟨rfl, zd_X6_setHeard⟩ ⟨Nat.le_of_ble_eq_true rfl, Nat.le_of_ble_eq_true rfl⟩ ⟨Nat.zero_le _, Nat.zero_le _⟩ [0, 1] rfl (by decide) rfl rfl rfl (fun _ => rfl) rfl (Nat.le_of_ble_eq_true rfl) rfl dX6_forgetNews_18 (fun u H locs h_7 hP hD hS => ?_)
    have hP : va_P D vwCl [(a, .inr (6, [.ref b])), (b, .inl (cI, 36, .inl (upd (upd (zfg f i) (25 + i) (-9)) (30 + i) (-9))))] H := hP
    have hD : va_D A [(a, .inr (6, [.ref b])), (b, .inl (cI, 36, .inl (upd (upd (zfg f i) (25 + i) (-9)) (30 + i) (-9))))] := hD
    refine lv_iinc (v := nI (i + 1)) (lv' := [(1, .int (nI (i + 1))), (0, .ref a)]) hx hb dX6_forgetNews_21 hl (k := 0) rfl (z_inc _ 1) (by decide) rfl (fun ls hl => ?_)
    refine lv_goto (tgt := 2) hx hb dX6_forgetNews_24 (by decide) ?_
    have e_8 : upd (upd (zfg f i) (25 + i) (-9)) (30 + i) (-9) = zfg f (i + 1) := by first | rfl | exact zfg_s f i
    have hP : va_P D vwCl [(a, .inr (6, [.ref b])), (b, .inl (cI, 36, .inl (zfg f (i + 1))))] H := Eq.subst (motive := fun zz_ => va_P D vwCl [(a, .inr (6, [.ref b])), (b, .inl (cI, 36, .inl zz_))] H) e_8 hP
    have hD : va_D A [(a, .inr (6, [.ref b])), (b, .inl (cI, 36, .inl (zfg f (i + 1))))] := zD_of hD rfl
    have hl : lv_has ls 2 [(1, .int (nI (i + 1))), (0, .ref a)] := lv_sub hl [0, 1] rfl
    exact ih_1 _ _ _ (by omega) ⟨hP, hD, hS, hl⟩

theorem dX6_beginDay_0 : decode cX6_beginDay 0 = .ok (.aload_n 0, 1) := by decide +kernel
theorem dX6_beginDay_1 : decode cX6_beginDay 1 = .ok (.getfield 11, 3) := by decide +kernel
theorem dX6_beginDay_4 : decode cX6_beginDay 4 = .ok (.bipush 35, 2) := by decide +kernel
theorem dX6_beginDay_6 : decode cX6_beginDay 6 = .ok (.dup2, 1) := by decide +kernel
theorem dX6_beginDay_7 : decode cX6_beginDay 7 = .ok (.iaload, 1) := by decide +kernel
theorem dX6_beginDay_8 : decode cX6_beginDay 8 = .ok (.iconst 1, 1) := by decide +kernel
theorem dX6_beginDay_9 : decode cX6_beginDay 9 = .ok (.iadd, 1) := by decide +kernel
theorem dX6_beginDay_10 : decode cX6_beginDay 10 = .ok (.iastore, 1) := by decide +kernel
theorem dX6_beginDay_11 : decode cX6_beginDay 11 = .ok (.aload_n 0, 1) := by decide +kernel
theorem dX6_beginDay_12 : decode cX6_beginDay 12 = .ok (.invokevirtual 18, 3) := by decide +kernel
theorem dX6_beginDay_15 : decode cX6_beginDay 15 = .ok (.return_, 1) := by decide +kernel
theorem zd_X6_beginDay : yX6_beginDay.cls ≠ "java/lang/invoke/MethodHandle" ∧ yX6_beginDay.cls ≠ "java/lang/invoke/VarHandle" ∧ (parseMethodDescriptor yX6_beginDay.desc).map (fun d => d.parameters.length) = some 0 := by decide +kernel
set_option maxHeartbeats 4000000 in
set_option maxRecDepth 100000 in
theorem zc_X6_beginDay (l : Launch) (D : va_G) (cI cZ : ClassId) (a : Nat) (b : Nat) (f : Nat → Int32) : zV l yX6_beginDay cX6_beginDay 1 2 43 D cI cZ [.ref a] [(a, .inr (6, [.ref b])), (b, .inl (cI, 36, .inl f))] (fun (u : Unit) => True) (fun (u : Unit) => [(a, .inr (6, [.ref b])), (b, .inl (cI, 36, .inl (zfg (upd f 35 (f 35 + 1)) 5)))]) := by
  refine zV_of (by decide) (Nat.le_of_ble_eq_true rfl) ?_
  intro pP eE sS mM aA bB mT cC A ls Z hP hD hS hl
  have hx := Z.1
  have hb := Z.2.1
  have hown := Z.2.2.2.2.2.1
  have hts := Z.2.2.2.2.1
  have Z : zAt pP sS mM aA mT cC D cI cZ A "SurpriseTax$State" cX6_beginDay 1 none := Z
  have hl : lv_has ls 1 [(0, .ref a)] := hl
  obtain ⟨H, hH⟩ : ∃ H, H = sS.heap := ⟨_, rfl⟩
  have hP : va_P D vwCl [(a, .inr (6, [.ref b])), (b, .inl (cI, 36, .inl f))] H := by rw [hH]; exact hP
  have hS : va_S A sS.heap H [] := by rw [hH]; exact hS
  rw [← hH]
  clear hH
  obtain ⟨locs, hlo⟩ : ∃ q : List Loc, q = [] := ⟨_, rfl⟩
  rw [← hlo] at hS ⊢
  clear hlo
  refine lv_aload_n hx hb dX6_beginDay_0 rfl (lv_at hl 0 rfl) ?_
  refine z_get (ci := 6) (v := .ref b) Z zin6 hP 0 rfl rfl 0 (by decide) zm110 rfl rfl dX6_beginDay_1 ?_
  refine lv_bipush (v := nI 35) hx hb dX6_beginDay_4 (by decide) ?_
  refine lv_dup2_11 hx hb dX6_beginDay_6 rfl rfl ?_
  refine z_iald (n := 36) (f := f) (j := 35) Z hP 1 rfl (by decide) (by decide) dX6_beginDay_7 ?_
  refine lv_iconst (v := nI 1) hx hb dX6_beginDay_8 (by decide) ?_
  refine lv_iadd hx hb dX6_beginDay_9 ?_
  refine z_top (y := (f 35) + 1) rfl ?_
  refine z_iast (n := 36) (f := f) (j := 35) (x := (f 35) + 1) Z hP hD hS 1 rfl (by decide) (by decide) dX6_beginDay_10 (fun H locs hP hD hS => ?_)
  have hP : va_P D vwCl [(a, .inr (6, [.ref b])), (b, .inl (cI, 36, .inl (upd f 35 ((f 35) + 1))))] H := hP
  have hD : va_D A [(a, .inr (6, [.ref b])), (b, .inl (cI, 36, .inl (upd f 35 ((f 35) + 1))))] := hD
  refine lv_aload_n hx hb dX6_beginDay_11 rfl (lv_at hl 0 rfl) ?_
  refine z_callVv (As := []) (rest := []) (ci := 6) (k0 := 0) Z hP hD hS hl.1 (zc_X6_forgetNews l D cI cZ a b (upd f 35 ((f 35) + 1)) ) zm98 zm99 zm100 zm33 zm101 ⟨rfl, zd_X6_forgetNews⟩ ⟨Nat.le_of_ble_eq_true rfl, Nat.le_of_ble_eq_true rfl⟩ ⟨Nat.zero_le _, Nat.zero_le _⟩ [0, 1] rfl (by decide) rfl rfl rfl (fun _ => rfl) rfl (Nat.le_of_ble_eq_true rfl) rfl dX6_beginDay_12 (fun u H locs h_2 hP hD hS => ?_)
  have hP : va_P D vwCl [(a, .inr (6, [.ref b])), (b, .inl (cI, 36, .inl (zfg (upd f 35 ((f 35) + 1)) 5)))] H := hP
  have hD : va_D A [(a, .inr (6, [.ref b])), (b, .inl (cI, 36, .inl (zfg (upd f 35 ((f 35) + 1)) 5)))] := hD
  have e_3 : zfg (upd f 35 ((f 35) + 1)) 5 = zfg (upd f 35 (f 35 + 1)) 5 := by (first | rfl | (simp []; done) | (simp_all []; done))
  have hP : va_P D vwCl [(a, .inr (6, [.ref b])), (b, .inl (cI, 36, .inl (zfg (upd f 35 (f 35 + 1)) 5)))] H := Eq.subst (motive := fun zz_ => va_P D vwCl [(a, .inr (6, [.ref b])), (b, .inl (cI, 36, .inl zz_))] H) e_3 hP
  have hD : va_D A [(a, .inr (6, [.ref b])), (b, .inl (cI, 36, .inl (zfg (upd f 35 (f 35 + 1)) 5)))] := zD_of hD rfl
  exact z_vret Z () trivial hP hS dX6_beginDay_15

theorem dX6_clear_0 : decode cX6_clear 0 = .ok (.iconst 0, 1) := by decide +kernel
theorem dX6_clear_1 : decode cX6_clear 1 = .ok (.istore_n 1, 1) := by decide +kernel
theorem dX6_clear_2 : decode cX6_clear 2 = .ok (.iload_n 1, 1) := by decide +kernel
theorem dX6_clear_3 : decode cX6_clear 3 = .ok (.bipush 36, 2) := by decide +kernel
theorem dX6_clear_5 : decode cX6_clear 5 = .ok (.if_icmp .ge 16, 3) := by decide +kernel
theorem dX6_clear_8 : decode cX6_clear 8 = .ok (.aload_n 0, 1) := by decide +kernel
theorem dX6_clear_9 : decode cX6_clear 9 = .ok (.getfield 11, 3) := by decide +kernel
theorem dX6_clear_12 : decode cX6_clear 12 = .ok (.iload_n 1, 1) := by decide +kernel
theorem dX6_clear_13 : decode cX6_clear 13 = .ok (.iconst 0, 1) := by decide +kernel
theorem dX6_clear_14 : decode cX6_clear 14 = .ok (.iastore, 1) := by decide +kernel
theorem dX6_clear_15 : decode cX6_clear 15 = .ok (.iinc 1 1, 3) := by decide +kernel
theorem dX6_clear_18 : decode cX6_clear 18 = .ok (.goto (-16), 3) := by decide +kernel
theorem dX6_clear_21 : decode cX6_clear 21 = .ok (.aload_n 0, 1) := by decide +kernel
theorem dX6_clear_22 : decode cX6_clear 22 = .ok (.invokevirtual 18, 3) := by decide +kernel
theorem dX6_clear_25 : decode cX6_clear 25 = .ok (.return_, 1) := by decide +kernel
theorem zd_X6_clear : yX6_clear.cls ≠ "java/lang/invoke/MethodHandle" ∧ yX6_clear.cls ≠ "java/lang/invoke/VarHandle" ∧ (parseMethodDescriptor yX6_clear.desc).map (fun d => d.parameters.length) = some 0 := by decide +kernel
set_option maxHeartbeats 4000000 in
set_option maxRecDepth 100000 in
theorem zc_X6_clear (l : Launch) (D : va_G) (cI cZ : ClassId) (a : Nat) (b : Nat) (f : Nat → Int32) : zV l yX6_clear cX6_clear 2 2 43 D cI cZ [.ref a] [(a, .inr (6, [.ref b])), (b, .inl (cI, 36, .inl f))] (fun (u : Unit) => True) (fun (u : Unit) => [(a, .inr (6, [.ref b])), (b, .inl (cI, 36, .inl (zfg (zcl f 36) 5)))]) := by
  refine zV_of (by decide) (Nat.le_of_ble_eq_true rfl) ?_
  intro pP eE sS mM aA bB mT cC A ls Z hP hD hS hl
  have hx := Z.1
  have hb := Z.2.1
  have hown := Z.2.2.2.2.2.1
  have hts := Z.2.2.2.2.1
  have Z : zAt pP sS mM aA mT cC D cI cZ A "SurpriseTax$State" cX6_clear 2 none := Z
  have hl : lv_has ls 2 [(0, .ref a)] := hl
  obtain ⟨H, hH⟩ : ∃ H, H = sS.heap := ⟨_, rfl⟩
  have hP : va_P D vwCl [(a, .inr (6, [.ref b])), (b, .inl (cI, 36, .inl f))] H := by rw [hH]; exact hP
  have hS : va_S A sS.heap H [] := by rw [hH]; exact hS
  rw [← hH]
  clear hH
  obtain ⟨locs, hlo⟩ : ∃ q : List Loc, q = [] := ⟨_, rfl⟩
  rw [← hlo] at hS ⊢
  clear hlo
  refine lv_iconst (v := nI 0) hx hb dX6_clear_0 (by decide) ?_
  refine lv_istore_n (lv' := [(1, .int (nI 0)), (0, .ref a)]) hx hb dX6_clear_1 rfl hl (by decide) rfl (fun ls hl => ?_)
  have e_2 : f = zcl f 0 := by first | rfl | exact (zcl_0 f).symm
  have hP : va_P D vwCl [(a, .inr (6, [.ref b])), (b, .inl (cI, 36, .inl (zcl f 0)))] H := Eq.subst (motive := fun zz_ => va_P D vwCl [(a, .inr (6, [.ref b])), (b, .inl (cI, 36, .inl zz_))] H) e_2 hP
  have hD : va_D A [(a, .inr (6, [.ref b])), (b, .inl (cI, 36, .inl (zcl f 0)))] := zD_of hD rfl
  have hl : lv_has ls 2 [(1, .int (nI 0)), (0, .ref a)] := lv_sub hl [0, 1] rfl
  refine z_loop (fun i H locs ls => va_P D vwCl [(a, .inr (6, [.ref b])), (b, .inl (cI, 36, .inl (zcl f i)))] H ∧ va_D A [(a, .inr (6, [.ref b])), (b, .inl (cI, 36, .inl (zcl f i)))] ∧ va_S A sS.heap H locs ∧ lv_has ls 2 [(1, .int (nI i)), (0, .ref a)]) (36) (lo := 0) (by omega) ⟨hP, hD, hS, hl⟩ (fun i hi_i ih_1 H locs ls hI => ?_)
  obtain ⟨hP, hD, hS, hl⟩ := hI
  have hP : va_P D vwCl [(a, .inr (6, [.ref b])), (b, .inl (cI, 36, .inl (zcl f i)))] H := hP
  have hD : va_D A [(a, .inr (6, [.ref b])), (b, .inl (cI, 36, .inl (zcl f i)))] := hD
  have hl : lv_has ls 2 [(1, .int (nI i)), (0, .ref a)] := hl
  refine lv_iload_n hx hb dX6_clear_2 rfl (lv_at hl 0 rfl) ?_
  refine lv_bipush (v := nI 36) hx hb dX6_clear_3 (by decide) ?_
  refine lv_icmp_ge (tgt := 21) hx hb dX6_clear_5 (by decide) (fun c_3 => ?_) (fun c_3 => ?_)
  · have c_3 := zle (i := 36) (j := i) (by decide) (by omega) c_3
    have hE_ : 36 = i := by omega
    subst hE_
    refine lv_aload_n hx hb dX6_clear_21 rfl (lv_at hl 1 rfl) ?_
    refine z_callVv (As := []) (rest := []) (ci := 6) (k0 := 0) Z hP hD hS hl.1 (zc_X6_forgetNews l D cI cZ a b (zcl f 36) ) zm98 zm99 zm100 zm33 zm101 ⟨rfl, zd_X6_forgetNews⟩ ⟨Nat.le_of_ble_eq_true rfl, Nat.le_of_ble_eq_true rfl⟩ ⟨Nat.zero_le _, Nat.zero_le _⟩ [0, 1] rfl (by decide) rfl rfl rfl (fun _ => rfl) rfl (Nat.le_of_ble_eq_true rfl) rfl dX6_clear_22 (fun u H locs h_5 hP hD hS => ?_)
    have hP : va_P D vwCl [(a, .inr (6, [.ref b])), (b, .inl (cI, 36, .inl (zfg (zcl f 36) 5)))] H := hP
    have hD : va_D A [(a, .inr (6, [.ref b])), (b, .inl (cI, 36, .inl (zfg (zcl f 36) 5)))] := hD
    exact z_vret Z () trivial hP hS dX6_clear_25
  · have c_3 := znle (i := 36) (j := i) (by decide) (by omega) c_3
    refine lv_aload_n hx hb dX6_clear_8 rfl (lv_at hl 1 rfl) ?_
    refine z_get (ci := 6) (v := .ref b) Z zin6 hP 0 rfl rfl 0 (by decide) zm110 rfl rfl dX6_clear_9 ?_
    refine lv_iload_n hx hb dX6_clear_12 rfl (lv_at hl 0 rfl) ?_
    refine lv_iconst (v := nI 0) hx hb dX6_clear_13 (by decide) ?_
    refine z_iast (n := 36) (f := zcl f i) (j := i) (x := nI 0) Z hP hD hS 1 rfl (by omega) (by decide) dX6_clear_14 (fun H locs hP hD hS => ?_)
    have hP : va_P D vwCl [(a, .inr (6, [.ref b])), (b, .inl (cI, 36, .inl (upd (zcl f i) i 0)))] H := hP
    have hD : va_D A [(a, .inr (6, [.ref b])), (b, .inl (cI, 36, .inl (upd (zcl f i) i 0)))] := hD
    refine lv_iinc (v := nI (i + 1)) (lv' := [(1, .int (nI (i + 1))), (0, .ref a)]) hx hb dX6_clear_15 hl (k := 0) rfl (z_inc _ 1) (by decide) rfl (fun ls hl => ?_)
    refine lv_goto (tgt := 2) hx hb dX6_clear_18 (by decide) ?_
    have e_6 : upd (zcl f i) i 0 = zcl f (i + 1) := by first | rfl | exact zcl_s f i
    have hP : va_P D vwCl [(a, .inr (6, [.ref b])), (b, .inl (cI, 36, .inl (zcl f (i + 1))))] H := Eq.subst (motive := fun zz_ => va_P D vwCl [(a, .inr (6, [.ref b])), (b, .inl (cI, 36, .inl zz_))] H) e_6 hP
    have hD : va_D A [(a, .inr (6, [.ref b])), (b, .inl (cI, 36, .inl (zcl f (i + 1))))] := zD_of hD rfl
    have hl : lv_has ls 2 [(1, .int (nI (i + 1))), (0, .ref a)] := lv_sub hl [0, 1] rfl
    exact ih_1 _ _ _ (by omega) ⟨hP, hD, hS, hl⟩

theorem dX6_copyFrom_0 : decode cX6_copyFrom 0 = .ok (.aload_n 1, 1) := by decide +kernel
theorem dX6_copyFrom_1 : decode cX6_copyFrom 1 = .ok (.getfield 11, 3) := by decide +kernel
theorem dX6_copyFrom_4 : decode cX6_copyFrom 4 = .ok (.iconst 0, 1) := by decide +kernel
theorem dX6_copyFrom_5 : decode cX6_copyFrom 5 = .ok (.aload_n 0, 1) := by decide +kernel
theorem dX6_copyFrom_6 : decode cX6_copyFrom 6 = .ok (.getfield 11, 3) := by decide +kernel
theorem dX6_copyFrom_9 : decode cX6_copyFrom 9 = .ok (.iconst 0, 1) := by decide +kernel
theorem dX6_copyFrom_10 : decode cX6_copyFrom 10 = .ok (.bipush 36, 2) := by decide +kernel
theorem dX6_copyFrom_12 : decode cX6_copyFrom 12 = .ok (.invokestatic 21, 3) := by decide +kernel
theorem dX6_copyFrom_15 : decode cX6_copyFrom 15 = .ok (.return_, 1) := by decide +kernel
theorem zd_X6_copyFrom : yX6_copyFrom.cls ≠ "java/lang/invoke/MethodHandle" ∧ yX6_copyFrom.cls ≠ "java/lang/invoke/VarHandle" ∧ (parseMethodDescriptor yX6_copyFrom.desc).map (fun d => d.parameters.length) = some 1 := by decide +kernel
set_option maxHeartbeats 4000000 in
set_option maxRecDepth 100000 in
theorem zc_X6_copyFrom (l : Launch) (D : va_G) (cI cZ : ClassId) (a : Nat) (b : Nat) (f : Nat → Int32) (a2 : Nat) (b2 : Nat) (g : Nat → Int32) : zV l yX6_copyFrom cX6_copyFrom 2 1 18 D cI cZ [.ref a, .ref a2] [(a, .inr (6, [.ref b])), (b, .inl (cI, 36, .inl f)), (a2, .inr (6, [.ref b2])), (b2, .inl (cI, 36, .inl g))] (fun (u : Unit) => True) (fun (u : Unit) => [(a, .inr (6, [.ref b])), (b, .inl (cI, 36, .inl g)), (a2, .inr (6, [.ref b2])), (b2, .inl (cI, 36, .inl g))]) := by
  refine zV_of (by decide) (Nat.le_of_ble_eq_true rfl) ?_
  intro pP eE sS mM aA bB mT cC A ls Z hP hD hS hl
  have hx := Z.1
  have hb := Z.2.1
  have hown := Z.2.2.2.2.2.1
  have hts := Z.2.2.2.2.1
  have Z : zAt pP sS mM aA mT cC D cI cZ A "SurpriseTax$State" cX6_copyFrom 2 none := Z
  have hl : lv_has ls 2 [(0, .ref a), (1, .ref a2)] := hl
  obtain ⟨H, hH⟩ : ∃ H, H = sS.heap := ⟨_, rfl⟩
  have hP : va_P D vwCl [(a, .inr (6, [.ref b])), (b, .inl (cI, 36, .inl f)), (a2, .inr (6, [.ref b2])), (b2, .inl (cI, 36, .inl g))] H := by rw [hH]; exact hP
  have hS : va_S A sS.heap H [] := by rw [hH]; exact hS
  rw [← hH]
  clear hH
  obtain ⟨locs, hlo⟩ : ∃ q : List Loc, q = [] := ⟨_, rfl⟩
  rw [← hlo] at hS ⊢
  clear hlo
  refine lv_aload_n hx hb dX6_copyFrom_0 rfl (lv_at hl 1 rfl) ?_
  refine z_get (ci := 6) (v := .ref b2) Z zin6 hP 2 rfl rfl 0 (by decide) zm110 rfl rfl dX6_copyFrom_1 ?_
  refine lv_iconst (v := nI 0) hx hb dX6_copyFrom_4 (by decide) ?_
  refine lv_aload_n hx hb dX6_copyFrom_5 rfl (lv_at hl 0 rfl) ?_
  refine z_get (ci := 6) (v := .ref b) Z zin6 hP 0 rfl rfl 0 (by decide) zm110 rfl rfl dX6_copyFrom_6 ?_
  refine lv_iconst (v := nI 0) hx hb dX6_copyFrom_9 (by decide) ?_
  refine lv_bipush (v := nI 36) hx hb dX6_copyFrom_10 (by decide) ?_
  refine z_copy (f := g) (g := f) (n0 := 36) (n1 := 36) Z hl.1 zm359 zm361 zm360 zm41 hP hD hS 3 1 rfl rfl (by omega) (by omega) (by omega) (by omega) (Nat.le_of_ble_eq_true rfl) (Nat.le_of_ble_eq_true rfl) dX6_copyFrom_12 (fun H locs hP hD hS => ?_)
  have hP : va_P D vwCl [(a, .inr (6, [.ref b])), (b, .inl (cI, 36, .inl (va_cpy g f 0 0 36))), (a2, .inr (6, [.ref b2])), (b2, .inl (cI, 36, .inl g))] H := hP
  have hD : va_D A [(a, .inr (6, [.ref b])), (b, .inl (cI, 36, .inl (va_cpy g f 0 0 36))), (a2, .inr (6, [.ref b2])), (b2, .inl (cI, 36, .inl g))] := hD
  have hP : va_P D vwCl [(a, .inr (6, [.ref b])), (b, .inl (cI, 36, .inl g)), (a2, .inr (6, [.ref b2])), (b2, .inl (cI, 36, .inl g))] H := z_arr (g := g) 1 rfl (by intro j hj; exact zcpy_in hj) hP
  have hD : va_D A [(a, .inr (6, [.ref b])), (b, .inl (cI, 36, .inl g)), (a2, .inr (6, [.ref b2])), (b2, .inl (cI, 36, .inl g))] := zD_of hD rfl
  exact z_vret Z () trivial hP hS dX6_copyFrom_15

theorem dX6_saveTo_0 : decode cX6_saveTo 0 = .ok (.aload_n 0, 1) := by decide +kernel
theorem dX6_saveTo_1 : decode cX6_saveTo 1 = .ok (.getfield 11, 3) := by decide +kernel
theorem dX6_saveTo_4 : decode cX6_saveTo 4 = .ok (.iconst 0, 1) := by decide +kernel
theorem dX6_saveTo_5 : decode cX6_saveTo 5 = .ok (.aload_n 1, 1) := by decide +kernel
theorem dX6_saveTo_6 : decode cX6_saveTo 6 = .ok (.iload_n 2, 1) := by decide +kernel
theorem dX6_saveTo_7 : decode cX6_saveTo 7 = .ok (.bipush 36, 2) := by decide +kernel
theorem dX6_saveTo_9 : decode cX6_saveTo 9 = .ok (.imul, 1) := by decide +kernel
theorem dX6_saveTo_10 : decode cX6_saveTo 10 = .ok (.bipush 36, 2) := by decide +kernel
theorem dX6_saveTo_12 : decode cX6_saveTo 12 = .ok (.invokestatic 21, 3) := by decide +kernel
theorem dX6_saveTo_15 : decode cX6_saveTo 15 = .ok (.return_, 1) := by decide +kernel
theorem zd_X6_saveTo : yX6_saveTo.cls ≠ "java/lang/invoke/MethodHandle" ∧ yX6_saveTo.cls ≠ "java/lang/invoke/VarHandle" ∧ (parseMethodDescriptor yX6_saveTo.desc).map (fun d => d.parameters.length) = some 2 := by decide +kernel
set_option maxHeartbeats 4000000 in
set_option maxRecDepth 100000 in
theorem zc_X6_saveTo (l : Launch) (D : va_G) (cI cZ : ClassId) (a : Nat) (b : Nat) (f : Nat → Int32) (b2 : Nat) (N : Nat) (g : Nat → Int32) (t : Nat) (hN : N = 432 ∨ N = 72) (ht : t * 36 + 36 ≤ N) : zV l yX6_saveTo cX6_saveTo 3 1 18 D cI cZ [.ref a, .ref b2, .int (nI t)] [(a, .inr (6, [.ref b])), (b, .inl (cI, 36, .inl f)), (b2, .inl (cI, N, .inl g))] (fun (u : Unit) => True) (fun (u : Unit) => [(a, .inr (6, [.ref b])), (b, .inl (cI, 36, .inl f)), (b2, .inl (cI, N, .inl (va_cpy f g 0 (t * 36) 36)))]) := by
  refine zV_of (by decide) (Nat.le_of_ble_eq_true rfl) ?_
  intro pP eE sS mM aA bB mT cC A ls Z hP hD hS hl
  have hx := Z.1
  have hb := Z.2.1
  have hown := Z.2.2.2.2.2.1
  have hts := Z.2.2.2.2.1
  have Z : zAt pP sS mM aA mT cC D cI cZ A "SurpriseTax$State" cX6_saveTo 3 none := Z
  have hl : lv_has ls 3 [(0, .ref a), (1, .ref b2), (2, .int (nI t))] := hl
  obtain ⟨H, hH⟩ : ∃ H, H = sS.heap := ⟨_, rfl⟩
  have hP : va_P D vwCl [(a, .inr (6, [.ref b])), (b, .inl (cI, 36, .inl f)), (b2, .inl (cI, N, .inl g))] H := by rw [hH]; exact hP
  have hS : va_S A sS.heap H [] := by rw [hH]; exact hS
  rw [← hH]
  clear hH
  obtain ⟨locs, hlo⟩ : ∃ q : List Loc, q = [] := ⟨_, rfl⟩
  rw [← hlo] at hS ⊢
  clear hlo
  refine lv_aload_n hx hb dX6_saveTo_0 rfl (lv_at hl 0 rfl) ?_
  refine z_get (ci := 6) (v := .ref b) Z zin6 hP 0 rfl rfl 0 (by decide) zm110 rfl rfl dX6_saveTo_1 ?_
  refine lv_iconst (v := nI 0) hx hb dX6_saveTo_4 (by decide) ?_
  refine lv_aload_n hx hb dX6_saveTo_5 rfl (lv_at hl 1 rfl) ?_
  refine lv_iload_n hx hb dX6_saveTo_6 rfl (lv_at hl 2 rfl) ?_
  refine lv_bipush (v := nI 36) hx hb dX6_saveTo_7 (by decide) ?_
  refine lv_imul hx hb dX6_saveTo_9 ?_
  refine z_top (y := nI (t * 36)) (z_mul _ _) ?_
  refine lv_bipush (v := nI 36) hx hb dX6_saveTo_10 (by decide) ?_
  refine z_copy (f := f) (g := g) (n0 := 36) (n1 := N) Z hl.1 zm359 zm361 zm360 zm41 hP hD hS 1 2 rfl rfl (by omega) (by omega) (by omega) (by omega) (Nat.le_of_ble_eq_true rfl) (Nat.le_of_ble_eq_true rfl) dX6_saveTo_12 (fun H locs hP hD hS => ?_)
  have hP : va_P D vwCl [(a, .inr (6, [.ref b])), (b, .inl (cI, 36, .inl f)), (b2, .inl (cI, N, .inl (va_cpy f g 0 (t * 36) 36)))] H := hP
  have hD : va_D A [(a, .inr (6, [.ref b])), (b, .inl (cI, 36, .inl f)), (b2, .inl (cI, N, .inl (va_cpy f g 0 (t * 36) 36)))] := hD
  exact z_vret Z () trivial hP hS dX6_saveTo_15

theorem dX6_loadFrom_0 : decode cX6_loadFrom 0 = .ok (.aload_n 1, 1) := by decide +kernel
theorem dX6_loadFrom_1 : decode cX6_loadFrom 1 = .ok (.iload_n 2, 1) := by decide +kernel
theorem dX6_loadFrom_2 : decode cX6_loadFrom 2 = .ok (.bipush 36, 2) := by decide +kernel
theorem dX6_loadFrom_4 : decode cX6_loadFrom 4 = .ok (.imul, 1) := by decide +kernel
theorem dX6_loadFrom_5 : decode cX6_loadFrom 5 = .ok (.aload_n 0, 1) := by decide +kernel
theorem dX6_loadFrom_6 : decode cX6_loadFrom 6 = .ok (.getfield 11, 3) := by decide +kernel
theorem dX6_loadFrom_9 : decode cX6_loadFrom 9 = .ok (.iconst 0, 1) := by decide +kernel
theorem dX6_loadFrom_10 : decode cX6_loadFrom 10 = .ok (.bipush 36, 2) := by decide +kernel
theorem dX6_loadFrom_12 : decode cX6_loadFrom 12 = .ok (.invokestatic 21, 3) := by decide +kernel
theorem dX6_loadFrom_15 : decode cX6_loadFrom 15 = .ok (.return_, 1) := by decide +kernel
theorem zd_X6_loadFrom : yX6_loadFrom.cls ≠ "java/lang/invoke/MethodHandle" ∧ yX6_loadFrom.cls ≠ "java/lang/invoke/VarHandle" ∧ (parseMethodDescriptor yX6_loadFrom.desc).map (fun d => d.parameters.length) = some 2 := by decide +kernel
set_option maxHeartbeats 4000000 in
set_option maxRecDepth 100000 in
theorem zc_X6_loadFrom (l : Launch) (D : va_G) (cI cZ : ClassId) (a : Nat) (b : Nat) (f : Nat → Int32) (b2 : Nat) (N : Nat) (g : Nat → Int32) (t : Nat) (hN : N = 432 ∨ N = 72) (ht : t * 36 + 36 ≤ N) : zV l yX6_loadFrom cX6_loadFrom 3 1 18 D cI cZ [.ref a, .ref b2, .int (nI t)] [(a, .inr (6, [.ref b])), (b, .inl (cI, 36, .inl f)), (b2, .inl (cI, N, .inl g))] (fun (u : Unit) => True) (fun (u : Unit) => [(a, .inr (6, [.ref b])), (b, .inl (cI, 36, .inl (va_cpy g f (t * 36) 0 36))), (b2, .inl (cI, N, .inl g))]) := by
  refine zV_of (by decide) (Nat.le_of_ble_eq_true rfl) ?_
  intro pP eE sS mM aA bB mT cC A ls Z hP hD hS hl
  have hx := Z.1
  have hb := Z.2.1
  have hown := Z.2.2.2.2.2.1
  have hts := Z.2.2.2.2.1
  have Z : zAt pP sS mM aA mT cC D cI cZ A "SurpriseTax$State" cX6_loadFrom 3 none := Z
  have hl : lv_has ls 3 [(0, .ref a), (1, .ref b2), (2, .int (nI t))] := hl
  obtain ⟨H, hH⟩ : ∃ H, H = sS.heap := ⟨_, rfl⟩
  have hP : va_P D vwCl [(a, .inr (6, [.ref b])), (b, .inl (cI, 36, .inl f)), (b2, .inl (cI, N, .inl g))] H := by rw [hH]; exact hP
  have hS : va_S A sS.heap H [] := by rw [hH]; exact hS
  rw [← hH]
  clear hH
  obtain ⟨locs, hlo⟩ : ∃ q : List Loc, q = [] := ⟨_, rfl⟩
  rw [← hlo] at hS ⊢
  clear hlo
  refine lv_aload_n hx hb dX6_loadFrom_0 rfl (lv_at hl 1 rfl) ?_
  refine lv_iload_n hx hb dX6_loadFrom_1 rfl (lv_at hl 2 rfl) ?_
  refine lv_bipush (v := nI 36) hx hb dX6_loadFrom_2 (by decide) ?_
  refine lv_imul hx hb dX6_loadFrom_4 ?_
  refine z_top (y := nI (t * 36)) (z_mul _ _) ?_
  refine lv_aload_n hx hb dX6_loadFrom_5 rfl (lv_at hl 0 rfl) ?_
  refine z_get (ci := 6) (v := .ref b) Z zin6 hP 0 rfl rfl 0 (by decide) zm110 rfl rfl dX6_loadFrom_6 ?_
  refine lv_iconst (v := nI 0) hx hb dX6_loadFrom_9 (by decide) ?_
  refine lv_bipush (v := nI 36) hx hb dX6_loadFrom_10 (by decide) ?_
  refine z_copy (f := g) (g := f) (n0 := N) (n1 := 36) Z hl.1 zm359 zm361 zm360 zm41 hP hD hS 2 1 rfl rfl (by omega) (by omega) (by omega) (by omega) (Nat.le_of_ble_eq_true rfl) (Nat.le_of_ble_eq_true rfl) dX6_loadFrom_12 (fun H locs hP hD hS => ?_)
  have hP : va_P D vwCl [(a, .inr (6, [.ref b])), (b, .inl (cI, 36, .inl (va_cpy g f (t * 36) 0 36))), (b2, .inl (cI, N, .inl g))] H := hP
  have hD : va_D A [(a, .inr (6, [.ref b])), (b, .inl (cI, 36, .inl (va_cpy g f (t * 36) 0 36))), (b2, .inl (cI, N, .inl g))] := hD
  exact z_vret Z () trivial hP hS dX6_loadFrom_15

theorem dX6_surprise_0 : decode cX6_surprise 0 = .ok (.aload_n 0, 1) := by decide +kernel
theorem dX6_surprise_1 : decode cX6_surprise 1 = .ok (.getfield 11, 3) := by decide +kernel
theorem dX6_surprise_4 : decode cX6_surprise 4 = .ok (.bipush 25, 2) := by decide +kernel
theorem dX6_surprise_6 : decode cX6_surprise 6 = .ok (.iload_n 1, 1) := by decide +kernel
theorem dX6_surprise_7 : decode cX6_surprise 7 = .ok (.iadd, 1) := by decide +kernel
theorem dX6_surprise_8 : decode cX6_surprise 8 = .ok (.iaload, 1) := by decide +kernel
theorem dX6_surprise_9 : decode cX6_surprise 9 = .ok (.istore 4, 2) := by decide +kernel
theorem dX6_surprise_11 : decode cX6_surprise 11 = .ok (.iload 4, 2) := by decide +kernel
theorem dX6_surprise_13 : decode cX6_surprise 13 = .ok (.iload_n 2, 1) := by decide +kernel
theorem dX6_surprise_14 : decode cX6_surprise 14 = .ok (.if_icmp .ne 5, 3) := by decide +kernel
theorem dX6_surprise_17 : decode cX6_surprise 17 = .ok (.iconst 0, 1) := by decide +kernel
theorem dX6_surprise_18 : decode cX6_surprise 18 = .ok (.ireturn, 1) := by decide +kernel
theorem dX6_surprise_19 : decode cX6_surprise 19 = .ok (.iload 4, 2) := by decide +kernel
theorem dX6_surprise_21 : decode cX6_surprise 21 = .ok (.bipush (-9), 2) := by decide +kernel
theorem dX6_surprise_23 : decode cX6_surprise 23 = .ok (.if_icmp .eq 8, 3) := by decide +kernel
theorem dX6_surprise_26 : decode cX6_surprise 26 = .ok (.bipush 10, 2) := by decide +kernel
theorem dX6_surprise_28 : decode cX6_surprise 28 = .ok (.iload_n 3, 1) := by decide +kernel
theorem dX6_surprise_29 : decode cX6_surprise 29 = .ok (.isub, 1) := by decide +kernel
theorem dX6_surprise_30 : decode cX6_surprise 30 = .ok (.ireturn, 1) := by decide +kernel
theorem dX6_surprise_31 : decode cX6_surprise 31 = .ok (.iconst 0, 1) := by decide +kernel
theorem dX6_surprise_32 : decode cX6_surprise 32 = .ok (.bipush 10, 2) := by decide +kernel
theorem dX6_surprise_34 : decode cX6_surprise 34 = .ok (.aload_n 0, 1) := by decide +kernel
theorem dX6_surprise_35 : decode cX6_surprise 35 = .ok (.getfield 11, 3) := by decide +kernel
theorem dX6_surprise_38 : decode cX6_surprise 38 = .ok (.iload_n 1, 1) := by decide +kernel
theorem dX6_surprise_39 : decode cX6_surprise 39 = .ok (.iconst 4, 1) := by decide +kernel
theorem dX6_surprise_40 : decode cX6_surprise 40 = .ok (.imul, 1) := by decide +kernel
theorem dX6_surprise_41 : decode cX6_surprise 41 = .ok (.iload_n 2, 1) := by decide +kernel
theorem dX6_surprise_42 : decode cX6_surprise 42 = .ok (.iadd, 1) := by decide +kernel
theorem dX6_surprise_43 : decode cX6_surprise 43 = .ok (.iaload, 1) := by decide +kernel
theorem dX6_surprise_44 : decode cX6_surprise 44 = .ok (.isub, 1) := by decide +kernel
theorem dX6_surprise_45 : decode cX6_surprise 45 = .ok (.iload_n 3, 1) := by decide +kernel
theorem dX6_surprise_46 : decode cX6_surprise 46 = .ok (.isub, 1) := by decide +kernel
theorem dX6_surprise_47 : decode cX6_surprise 47 = .ok (.invokestatic 41, 3) := by decide +kernel
theorem dX6_surprise_50 : decode cX6_surprise 50 = .ok (.istore 5, 2) := by decide +kernel
theorem dX6_surprise_52 : decode cX6_surprise 52 = .ok (.aload_n 0, 1) := by decide +kernel
theorem dX6_surprise_53 : decode cX6_surprise 53 = .ok (.getfield 11, 3) := by decide +kernel
theorem dX6_surprise_56 : decode cX6_surprise 56 = .ok (.bipush 30, 2) := by decide +kernel
theorem dX6_surprise_58 : decode cX6_surprise 58 = .ok (.iload_n 1, 1) := by decide +kernel
theorem dX6_surprise_59 : decode cX6_surprise 59 = .ok (.iadd, 1) := by decide +kernel
theorem dX6_surprise_60 : decode cX6_surprise 60 = .ok (.iaload, 1) := by decide +kernel
theorem dX6_surprise_61 : decode cX6_surprise 61 = .ok (.iload_n 2, 1) := by decide +kernel
theorem dX6_surprise_62 : decode cX6_surprise 62 = .ok (.if_icmp .ne 10, 3) := by decide +kernel
theorem dX6_surprise_65 : decode cX6_surprise 65 = .ok (.iload 5, 2) := by decide +kernel
theorem dX6_surprise_67 : decode cX6_surprise 67 = .ok (.iconst 2, 1) := by decide +kernel
theorem dX6_surprise_68 : decode cX6_surprise 68 = .ok (.idiv, 1) := by decide +kernel
theorem dX6_surprise_69 : decode cX6_surprise 69 = .ok (.goto 5, 3) := by decide +kernel
theorem dX6_surprise_72 : decode cX6_surprise 72 = .ok (.iload 5, 2) := by decide +kernel
theorem dX6_surprise_74 : decode cX6_surprise 74 = .ok (.ireturn, 1) := by decide +kernel
theorem zd_X6_surprise : yX6_surprise.cls ≠ "java/lang/invoke/MethodHandle" ∧ yX6_surprise.cls ≠ "java/lang/invoke/VarHandle" ∧ (parseMethodDescriptor yX6_surprise.desc).map (fun d => d.parameters.length) = some 3 := by decide +kernel
set_option maxHeartbeats 4000000 in
set_option maxRecDepth 100000 in
theorem zc_X6_surprise (l : Launch) (D : va_G) (cI cZ : ClassId) (a : Nat) (b : Nat) (f : Nat → Int32) (p : Nat) (k : Nat) (free : Int32) (hp : p < 5) (hk : k < 4) : zI l yX6_surprise cX6_surprise 6 .int 1 13 D cI cZ [.ref a, .int (nI p), .int (nI k), .int free] [(a, .inr (6, [.ref b])), (b, .inl (cI, 36, .inl f))] (fun (r : Int32) (u : Unit) => r = zsu (f (p * 4 + k)) (f (25 + p)) (f (30 + p)) (nI k) free) (fun (u : Unit) => [(a, .inr (6, [.ref b])), (b, .inl (cI, 36, .inl f))]) := by
  refine zI_of (by decide) (Nat.le_of_ble_eq_true rfl) ?_
  intro pP eE sS mM aA bB mT cC A ls Z hP hD hS hl
  have hx := Z.1
  have hb := Z.2.1
  have hown := Z.2.2.2.2.2.1
  have hts := Z.2.2.2.2.1
  have Z : zAt pP sS mM aA mT cC D cI cZ A "SurpriseTax$State" cX6_surprise 6 (some .int) := Z
  have hl : lv_has ls 6 [(0, .ref a), (1, .int (nI p)), (2, .int (nI k)), (3, .int free)] := hl
  obtain ⟨H, hH⟩ : ∃ H, H = sS.heap := ⟨_, rfl⟩
  have hP : va_P D vwCl [(a, .inr (6, [.ref b])), (b, .inl (cI, 36, .inl f))] H := by rw [hH]; exact hP
  have hS : va_S A sS.heap H [] := by rw [hH]; exact hS
  rw [← hH]
  clear hH
  obtain ⟨locs, hlo⟩ : ∃ q : List Loc, q = [] := ⟨_, rfl⟩
  rw [← hlo] at hS ⊢
  clear hlo
  refine lv_aload_n hx hb dX6_surprise_0 rfl (lv_at hl 0 rfl) ?_
  refine z_get (ci := 6) (v := .ref b) Z zin6 hP 0 rfl rfl 0 (by decide) zm110 rfl rfl dX6_surprise_1 ?_
  refine lv_bipush (v := nI 25) hx hb dX6_surprise_4 (by decide) ?_
  refine lv_iload_n hx hb dX6_surprise_6 rfl (lv_at hl 1 rfl) ?_
  refine lv_iadd hx hb dX6_surprise_7 ?_
  refine z_top (y := nI (25 + p)) (z_add _ _) ?_
  refine z_iald (n := 36) (f := f) (j := 25 + p) Z hP 1 rfl (by omega) (by decide) dX6_surprise_8 ?_
  refine lv_istore (lv' := [(4, .int (f (25 + p))), (0, .ref a), (1, .int (nI p)), (2, .int (nI k)), (3, .int free)]) hx hb dX6_surprise_9 hl (by decide) rfl (fun ls hl => ?_)
  refine lv_iload hx hb dX6_surprise_11 (lv_at hl 0 rfl) ?_
  refine lv_iload_n hx hb dX6_surprise_13 rfl (lv_at hl 3 rfl) ?_
  refine lv_icmp_ne (tgt := 19) hx hb dX6_surprise_14 (by decide) (fun c_1 => ?_) (fun c_1 => ?_)
  · have c_1 : ¬ ((f (25 + p)) = (nI k)) := c_1
    refine lv_iload hx hb dX6_surprise_19 (lv_at hl 0 rfl) ?_
    refine lv_bipush (v := -9) hx hb dX6_surprise_21 (by decide) ?_
    refine lv_icmp_eq (tgt := 31) hx hb dX6_surprise_23 (by decide) (fun c_2 => ?_) (fun c_2 => ?_)
    · have c_2 : (f (25 + p)) = (-9) := c_2
      refine lv_iconst (v := nI 0) hx hb dX6_surprise_31 (by decide) ?_
      refine lv_bipush (v := nI 10) hx hb dX6_surprise_32 (by decide) ?_
      refine lv_aload_n hx hb dX6_surprise_34 rfl (lv_at hl 1 rfl) ?_
      refine z_get (ci := 6) (v := .ref b) Z zin6 hP 0 rfl rfl 0 (by decide) zm110 rfl rfl dX6_surprise_35 ?_
      refine lv_iload_n hx hb dX6_surprise_38 rfl (lv_at hl 2 rfl) ?_
      refine lv_iconst (v := nI 4) hx hb dX6_surprise_39 (by decide) ?_
      refine lv_imul hx hb dX6_surprise_40 ?_
      refine z_top (y := nI (p * 4)) (z_mul _ _) ?_
      refine lv_iload_n hx hb dX6_surprise_41 rfl (lv_at hl 3 rfl) ?_
      refine lv_iadd hx hb dX6_surprise_42 ?_
      refine z_top (y := nI (p * 4 + k)) (z_add _ _) ?_
      refine z_iald (n := 36) (f := f) (j := p * 4 + k) Z hP 1 rfl (by omega) (by decide) dX6_surprise_43 ?_
      refine lv_isub hx hb dX6_surprise_44 ?_
      refine z_top (y := 10 - (f (p * 4 + k))) rfl ?_
      refine lv_iload_n hx hb dX6_surprise_45 rfl (lv_at hl 4 rfl) ?_
      refine lv_isub hx hb dX6_surprise_46 ?_
      refine z_top (y := (10 - (f (p * 4 + k))) - free) rfl ?_
      refine z_max Z hl.1 zm399 zm242 zm40 zm243 (Nat.le_of_ble_eq_true rfl) (Nat.le_of_ble_eq_true rfl) (Nat.zero_le _) (Nat.zero_le _) dX6_surprise_47 ?_
      refine z_top (y := if 0 < ((10 - (f (p * 4 + k))) - free) then ((10 - (f (p * 4 + k))) - free) else 0) rfl ?_
      refine lv_istore (lv' := [(5, .int (if 0 < ((10 - (f (p * 4 + k))) - free) then ((10 - (f (p * 4 + k))) - free) else 0)), (4, .int (f (25 + p))), (0, .ref a), (1, .int (nI p)), (2, .int (nI k)), (3, .int free)]) hx hb dX6_surprise_50 hl (by decide) rfl (fun ls hl => ?_)
      refine lv_aload_n hx hb dX6_surprise_52 rfl (lv_at hl 2 rfl) ?_
      refine z_get (ci := 6) (v := .ref b) Z zin6 hP 0 rfl rfl 0 (by decide) zm110 rfl rfl dX6_surprise_53 ?_
      refine lv_bipush (v := nI 30) hx hb dX6_surprise_56 (by decide) ?_
      refine lv_iload_n hx hb dX6_surprise_58 rfl (lv_at hl 3 rfl) ?_
      refine lv_iadd hx hb dX6_surprise_59 ?_
      refine z_top (y := nI (30 + p)) (z_add _ _) ?_
      refine z_iald (n := 36) (f := f) (j := 30 + p) Z hP 1 rfl (by omega) (by decide) dX6_surprise_60 ?_
      refine lv_iload_n hx hb dX6_surprise_61 rfl (lv_at hl 4 rfl) ?_
      refine lv_icmp_ne (tgt := 72) hx hb dX6_surprise_62 (by decide) (fun c_3 => ?_) (fun c_3 => ?_)
      · have c_3 : ¬ ((f (30 + p)) = (nI k)) := c_3
        refine lv_iload hx hb dX6_surprise_72 (lv_at hl 0 rfl) ?_
        exact z_iret Z () (by (first | rfl | (simp [zsu, nI_zero, c_1, c_2, c_3]; done) | (simp_all [zsu, nI_zero]; done))) hP hS dX6_surprise_74
      · have c_3 : (f (30 + p)) = (nI k) := c_3
        refine lv_iload hx hb dX6_surprise_65 (lv_at hl 0 rfl) ?_
        refine lv_iconst (v := nI 2) hx hb dX6_surprise_67 (by decide) ?_
        refine lv_idiv hx hb dX6_surprise_68 (by decide) ?_
        refine z_top (y := (if 0 < ((10 - (f (p * 4 + k))) - free) then ((10 - (f (p * 4 + k))) - free) else 0) / 2) rfl ?_
        refine lv_goto (tgt := 74) hx hb dX6_surprise_69 (by decide) ?_
        exact z_iret Z () (by (first | rfl | (simp [zsu, nI_zero, c_1, c_2, c_3]; done) | (simp_all [zsu, nI_zero]; done))) hP hS dX6_surprise_74
    · have c_2 : ¬ ((f (25 + p)) = (-9)) := c_2
      refine lv_bipush (v := nI 10) hx hb dX6_surprise_26 (by decide) ?_
      refine lv_iload_n hx hb dX6_surprise_28 rfl (lv_at hl 4 rfl) ?_
      refine lv_isub hx hb dX6_surprise_29 ?_
      refine z_top (y := 10 - free) rfl ?_
      exact z_iret Z () (by (first | rfl | (simp [zsu, nI_zero, c_1, c_2]; done) | (simp_all [zsu, nI_zero]; done))) hP hS dX6_surprise_30
  · have c_1 : (f (25 + p)) = (nI k) := c_1
    refine lv_iconst (v := nI 0) hx hb dX6_surprise_17 (by decide) ?_
    exact z_iret Z () (by (first | rfl | (simp [zsu, nI_zero, c_1]; done) | (simp_all [zsu, nI_zero]; done))) hP hS dX6_surprise_18

theorem dX6_learn_0 : decode cX6_learn 0 = .ok (.aload_n 0, 1) := by decide +kernel
theorem dX6_learn_1 : decode cX6_learn 1 = .ok (.iload_n 1, 1) := by decide +kernel
theorem dX6_learn_2 : decode cX6_learn 2 = .ok (.iload_n 2, 1) := by decide +kernel
theorem dX6_learn_3 : decode cX6_learn 3 = .ok (.invokevirtual 47, 3) := by decide +kernel
theorem dX6_learn_6 : decode cX6_learn 6 = .ok (.bipush 10, 2) := by decide +kernel
theorem dX6_learn_8 : decode cX6_learn 8 = .ok (.if_icmp .lt 4, 3) := by decide +kernel
theorem dX6_learn_11 : decode cX6_learn 11 = .ok (.return_, 1) := by decide +kernel
theorem dX6_learn_12 : decode cX6_learn 12 = .ok (.iload_n 2, 1) := by decide +kernel
theorem dX6_learn_13 : decode cX6_learn 13 = .ok (.ifCond .ne 7, 3) := by decide +kernel
theorem dX6_learn_16 : decode cX6_learn 16 = .ok (.iconst 1, 1) := by decide +kernel
theorem dX6_learn_17 : decode cX6_learn 17 = .ok (.goto 4, 3) := by decide +kernel
theorem dX6_learn_20 : decode cX6_learn 20 = .ok (.iconst 0, 1) := by decide +kernel
theorem dX6_learn_21 : decode cX6_learn 21 = .ok (.istore_n 3, 1) := by decide +kernel
theorem dX6_learn_22 : decode cX6_learn 22 = .ok (.iload_n 3, 1) := by decide +kernel
theorem dX6_learn_23 : decode cX6_learn 23 = .ok (.iconst 1, 1) := by decide +kernel
theorem dX6_learn_24 : decode cX6_learn 24 = .ok (.iadd, 1) := by decide +kernel
theorem dX6_learn_25 : decode cX6_learn 25 = .ok (.istore 4, 2) := by decide +kernel
theorem dX6_learn_27 : decode cX6_learn 27 = .ok (.iload 4, 2) := by decide +kernel
theorem dX6_learn_29 : decode cX6_learn 29 = .ok (.iconst 4, 1) := by decide +kernel
theorem dX6_learn_30 : decode cX6_learn 30 = .ok (.if_icmp .ge 34, 3) := by decide +kernel
theorem dX6_learn_33 : decode cX6_learn 33 = .ok (.iload 4, 2) := by decide +kernel
theorem dX6_learn_35 : decode cX6_learn 35 = .ok (.iload_n 2, 1) := by decide +kernel
theorem dX6_learn_36 : decode cX6_learn 36 = .ok (.if_icmp .eq 22, 3) := by decide +kernel
theorem dX6_learn_39 : decode cX6_learn 39 = .ok (.aload_n 0, 1) := by decide +kernel
theorem dX6_learn_40 : decode cX6_learn 40 = .ok (.iload_n 1, 1) := by decide +kernel
theorem dX6_learn_41 : decode cX6_learn 41 = .ok (.iload 4, 2) := by decide +kernel
theorem dX6_learn_43 : decode cX6_learn 43 = .ok (.invokevirtual 47, 3) := by decide +kernel
theorem dX6_learn_46 : decode cX6_learn 46 = .ok (.aload_n 0, 1) := by decide +kernel
theorem dX6_learn_47 : decode cX6_learn 47 = .ok (.iload_n 1, 1) := by decide +kernel
theorem dX6_learn_48 : decode cX6_learn 48 = .ok (.iload_n 3, 1) := by decide +kernel
theorem dX6_learn_49 : decode cX6_learn 49 = .ok (.invokevirtual 47, 3) := by decide +kernel
theorem dX6_learn_52 : decode cX6_learn 52 = .ok (.if_icmp .le 6, 3) := by decide +kernel
theorem dX6_learn_55 : decode cX6_learn 55 = .ok (.iload 4, 2) := by decide +kernel
theorem dX6_learn_57 : decode cX6_learn 57 = .ok (.istore_n 3, 1) := by decide +kernel
theorem dX6_learn_58 : decode cX6_learn 58 = .ok (.iinc 4 1, 3) := by decide +kernel
theorem dX6_learn_61 : decode cX6_learn 61 = .ok (.goto (-34), 3) := by decide +kernel
theorem dX6_learn_64 : decode cX6_learn 64 = .ok (.aload_n 0, 1) := by decide +kernel
theorem dX6_learn_65 : decode cX6_learn 65 = .ok (.iload_n 1, 1) := by decide +kernel
theorem dX6_learn_66 : decode cX6_learn 66 = .ok (.iload_n 2, 1) := by decide +kernel
theorem dX6_learn_67 : decode cX6_learn 67 = .ok (.aload_n 0, 1) := by decide +kernel
theorem dX6_learn_68 : decode cX6_learn 68 = .ok (.iload_n 1, 1) := by decide +kernel
theorem dX6_learn_69 : decode cX6_learn 69 = .ok (.iload_n 2, 1) := by decide +kernel
theorem dX6_learn_70 : decode cX6_learn 70 = .ok (.invokevirtual 47, 3) := by decide +kernel
theorem dX6_learn_73 : decode cX6_learn 73 = .ok (.iconst 1, 1) := by decide +kernel
theorem dX6_learn_74 : decode cX6_learn 74 = .ok (.iadd, 1) := by decide +kernel
theorem dX6_learn_75 : decode cX6_learn 75 = .ok (.invokevirtual 50, 3) := by decide +kernel
theorem dX6_learn_78 : decode cX6_learn 78 = .ok (.aload_n 0, 1) := by decide +kernel
theorem dX6_learn_79 : decode cX6_learn 79 = .ok (.iload_n 1, 1) := by decide +kernel
theorem dX6_learn_80 : decode cX6_learn 80 = .ok (.iload_n 3, 1) := by decide +kernel
theorem dX6_learn_81 : decode cX6_learn 81 = .ok (.aload_n 0, 1) := by decide +kernel
theorem dX6_learn_82 : decode cX6_learn 82 = .ok (.iload_n 1, 1) := by decide +kernel
theorem dX6_learn_83 : decode cX6_learn 83 = .ok (.iload_n 3, 1) := by decide +kernel
theorem dX6_learn_84 : decode cX6_learn 84 = .ok (.invokevirtual 47, 3) := by decide +kernel
theorem dX6_learn_87 : decode cX6_learn 87 = .ok (.iconst 1, 1) := by decide +kernel
theorem dX6_learn_88 : decode cX6_learn 88 = .ok (.isub, 1) := by decide +kernel
theorem dX6_learn_89 : decode cX6_learn 89 = .ok (.invokevirtual 50, 3) := by decide +kernel
theorem dX6_learn_92 : decode cX6_learn 92 = .ok (.return_, 1) := by decide +kernel
theorem zd_X6_learn : yX6_learn.cls ≠ "java/lang/invoke/MethodHandle" ∧ yX6_learn.cls ≠ "java/lang/invoke/VarHandle" ∧ (parseMethodDescriptor yX6_learn.desc).map (fun d => d.parameters.length) = some 2 := by decide +kernel
set_option maxHeartbeats 4000000 in
set_option maxRecDepth 100000 in
theorem zc_X6_learn (l : Launch) (D : va_G) (cI cZ : ClassId) (a : Nat) (b : Nat) (f : Nat → Int32) (p : Nat) (k : Nat) (hp : p < 5) (hk : k < 4) : zV l yX6_learn cX6_learn 5 1 23 D cI cZ [.ref a, .int (nI p), .int (nI k)] [(a, .inr (6, [.ref b])), (b, .inl (cI, 36, .inl f))] (fun (u : Unit) => True) (fun (u : Unit) => [(a, .inr (6, [.ref b])), (b, .inl (cI, 36, .inl (zlearn f p k)))]) := by
  refine zV_of (by decide) (Nat.le_of_ble_eq_true rfl) ?_
  intro pP eE sS mM aA bB mT cC A ls Z hP hD hS hl
  have hx := Z.1
  have hb := Z.2.1
  have hown := Z.2.2.2.2.2.1
  have hts := Z.2.2.2.2.1
  have Z : zAt pP sS mM aA mT cC D cI cZ A "SurpriseTax$State" cX6_learn 5 none := Z
  have hl : lv_has ls 5 [(0, .ref a), (1, .int (nI p)), (2, .int (nI k))] := hl
  obtain ⟨H, hH⟩ : ∃ H, H = sS.heap := ⟨_, rfl⟩
  have hP : va_P D vwCl [(a, .inr (6, [.ref b])), (b, .inl (cI, 36, .inl f))] H := by rw [hH]; exact hP
  have hS : va_S A sS.heap H [] := by rw [hH]; exact hS
  rw [← hH]
  clear hH
  obtain ⟨locs, hlo⟩ : ∃ q : List Loc, q = [] := ⟨_, rfl⟩
  rw [← hlo] at hS ⊢
  clear hlo
  refine lv_aload_n hx hb dX6_learn_0 rfl (lv_at hl 0 rfl) ?_
  refine lv_iload_n hx hb dX6_learn_1 rfl (lv_at hl 1 rfl) ?_
  refine lv_iload_n hx hb dX6_learn_2 rfl (lv_at hl 2 rfl) ?_
  refine z_callVi (As := [.int (nI p), .int (nI k)]) (rest := []) (ci := 6) (k0 := 0) Z hP hD hS hl.1 (zc_X6_expected l D cI cZ a b f p k (by omega) (by omega)) zm405 zm334 zm335 zm33 zm336 ⟨rfl, zd_X6_expected⟩ ⟨Nat.le_of_ble_eq_true rfl, Nat.le_of_ble_eq_true rfl⟩ ⟨Nat.zero_le _, Nat.zero_le _⟩ [0, 1] rfl (by decide) rfl rfl rfl (fun _ => rfl) rfl (Nat.le_of_ble_eq_true rfl) rfl dX6_learn_3 (fun r_1 u H locs h_2 hP hD hS => ?_)
  have hP : va_P D vwCl [(a, .inr (6, [.ref b])), (b, .inl (cI, 36, .inl f))] H := hP
  have hD : va_D A [(a, .inr (6, [.ref b])), (b, .inl (cI, 36, .inl f))] := hD
  have h_2 : r_1 = f (p * 4 + k) := h_2
  subst h_2
  refine lv_bipush (v := nI 10) hx hb dX6_learn_6 (by decide) ?_
  refine lv_icmp_lt (tgt := 12) hx hb dX6_learn_8 (by decide) (fun c_3 => ?_) (fun c_3 => ?_)
  · have c_3 : (f (p * 4 + k)) < 10 := c_3
    refine lv_iload_n hx hb dX6_learn_12 rfl (lv_at hl 2 rfl) ?_
    refine z_cut (fun H locs ls => va_P D vwCl [(a, .inr (6, [.ref b])), (b, .inl (cI, 36, .inl f))] H ∧ va_D A [(a, .inr (6, [.ref b])), (b, .inl (cI, 36, .inl f))] ∧ va_S A sS.heap H locs ∧ lv_has ls 5 [(0, .ref a), (1, .int (nI p)), (2, .int (nI k))]) 21 [.int (nI (zmf k))] (fun H locs ls hI => ?_) (fun k_4 => ?_)
    · obtain ⟨hP, hD, hS, hl⟩ := hI
      have hm0 := zmf_le k
      refine lv_istore_n (lv' := [(3, .int (nI (zmf k))), (0, .ref a), (1, .int (nI p)), (2, .int (nI k))]) hx hb dX6_learn_21 rfl hl (by decide) rfl (fun ls hl => ?_)
      refine lv_iload_n hx hb dX6_learn_22 rfl (lv_at hl 0 rfl) ?_
      refine lv_iconst (v := nI 1) hx hb dX6_learn_23 (by decide) ?_
      refine lv_iadd hx hb dX6_learn_24 ?_
      refine z_top (y := nI (zmf k + 1)) (z_add _ _) ?_
      refine lv_istore (lv' := [(4, .int (nI (zmf k + 1))), (3, .int (nI (zmf k))), (0, .ref a), (1, .int (nI p)), (2, .int (nI k))]) hx hb dX6_learn_25 hl (by decide) rfl (fun ls hl => ?_)
      have hl : lv_has ls 5 [(4, .int (nI (zmf k + 1))), (3, .int (nI (zmf k))), (0, .ref a), (1, .int (nI p)), (2, .int (nI k))] := lv_sub hl [0, 1, 2, 3, 4] rfl
      have e_6 : nI (zmf k) = nI (zmost (zrow f p) k (zmf k + 1)) := by first | rfl | rw [zmost_st]
      have hl : lv_has ls 5 [(4, .int (nI (zmf k + 1))), (3, .int (nI (zmost (zrow f p) k (zmf k + 1)))), (0, .ref a), (1, .int (nI p)), (2, .int (nI k))] := Eq.subst (motive := fun zz_ => lv_has ls 5 [(4, .int (nI (zmf k + 1))), (3, .int zz_), (0, .ref a), (1, .int (nI p)), (2, .int (nI k))]) e_6 hl
      refine z_loop (fun o H locs ls => va_P D vwCl [(a, .inr (6, [.ref b])), (b, .inl (cI, 36, .inl f))] H ∧ va_D A [(a, .inr (6, [.ref b])), (b, .inl (cI, 36, .inl f))] ∧ va_S A sS.heap H locs ∧ lv_has ls 5 [(4, .int (nI o)), (3, .int (nI (zmost (zrow f p) k o))), (0, .ref a), (1, .int (nI p)), (2, .int (nI k))]) (4) (lo := zmf k + 1) (by omega) ⟨hP, hD, hS, hl⟩ (fun o hi_o ih_5 H locs ls hI => ?_)
      obtain ⟨hP, hD, hS, hl⟩ := hI
      have hP : va_P D vwCl [(a, .inr (6, [.ref b])), (b, .inl (cI, 36, .inl f))] H := hP
      have hD : va_D A [(a, .inr (6, [.ref b])), (b, .inl (cI, 36, .inl f))] := hD
      have hl : lv_has ls 5 [(4, .int (nI o)), (3, .int (nI (zmost (zrow f p) k o))), (0, .ref a), (1, .int (nI p)), (2, .int (nI k))] := hl
      have hm := zmost_lt (zrow f p) (k := k) (o := o) (by omega)
      refine lv_iload hx hb dX6_learn_27 (lv_at hl 0 rfl) ?_
      refine lv_iconst (v := nI 4) hx hb dX6_learn_29 (by decide) ?_
      refine lv_icmp_ge (tgt := 64) hx hb dX6_learn_30 (by decide) (fun c_7 => ?_) (fun c_7 => ?_)
      · have c_7 := zle (i := 4) (j := o) (by decide) (by omega) c_7
        have hE_ : 4 = o := by omega
        subst hE_
        refine lv_aload_n hx hb dX6_learn_64 rfl (lv_at hl 2 rfl) ?_
        refine lv_iload_n hx hb dX6_learn_65 rfl (lv_at hl 3 rfl) ?_
        refine lv_iload_n hx hb dX6_learn_66 rfl (lv_at hl 4 rfl) ?_
        refine lv_aload_n hx hb dX6_learn_67 rfl (lv_at hl 2 rfl) ?_
        refine lv_iload_n hx hb dX6_learn_68 rfl (lv_at hl 3 rfl) ?_
        refine lv_iload_n hx hb dX6_learn_69 rfl (lv_at hl 4 rfl) ?_
        refine z_callVi (As := [.int (nI p), .int (nI k)]) (rest := [.int (nI k), .int (nI p), .ref a]) (ci := 6) (k0 := 0) Z hP hD hS hl.1 (zc_X6_expected l D cI cZ a b f p k (by omega) (by omega)) zm405 zm334 zm335 zm33 zm336 ⟨rfl, zd_X6_expected⟩ ⟨Nat.le_of_ble_eq_true rfl, Nat.le_of_ble_eq_true rfl⟩ ⟨Nat.zero_le _, Nat.zero_le _⟩ [0, 1] rfl (by decide) rfl rfl rfl (fun _ => rfl) rfl (Nat.le_of_ble_eq_true rfl) rfl dX6_learn_70 (fun r_8 u H locs h_9 hP hD hS => ?_)
        have hP : va_P D vwCl [(a, .inr (6, [.ref b])), (b, .inl (cI, 36, .inl f))] H := hP
        have hD : va_D A [(a, .inr (6, [.ref b])), (b, .inl (cI, 36, .inl f))] := hD
        have h_9 : r_8 = f (p * 4 + k) := h_9
        subst h_9
        refine lv_iconst (v := nI 1) hx hb dX6_learn_73 (by decide) ?_
        refine lv_iadd hx hb dX6_learn_74 ?_
        refine z_top (y := (f (p * 4 + k)) + 1) rfl ?_
        refine z_callVv (As := [.int (nI p), .int (nI k), .int ((f (p * 4 + k)) + 1)]) (rest := []) (ci := 6) (k0 := 0) Z hP hD hS hl.1 (zc_X6_setExpected l D cI cZ a b f p k ((f (p * 4 + k)) + 1) (by omega) (by omega)) zm406 zm254 zm255 zm33 zm256 ⟨rfl, zd_X6_setExpected⟩ ⟨Nat.le_of_ble_eq_true rfl, Nat.le_of_ble_eq_true rfl⟩ ⟨Nat.zero_le _, Nat.zero_le _⟩ [0, 1] rfl (by decide) rfl rfl rfl (fun _ => rfl) rfl (Nat.le_of_ble_eq_true rfl) rfl dX6_learn_75 (fun u H locs h_11 hP hD hS => ?_)
        have hP : va_P D vwCl [(a, .inr (6, [.ref b])), (b, .inl (cI, 36, .inl (upd f (p * 4 + k) ((f (p * 4 + k)) + 1))))] H := hP
        have hD : va_D A [(a, .inr (6, [.ref b])), (b, .inl (cI, 36, .inl (upd f (p * 4 + k) ((f (p * 4 + k)) + 1))))] := hD
        refine lv_aload_n hx hb dX6_learn_78 rfl (lv_at hl 2 rfl) ?_
        refine lv_iload_n hx hb dX6_learn_79 rfl (lv_at hl 3 rfl) ?_
        refine lv_iload_n hx hb dX6_learn_80 rfl (lv_at hl 1 rfl) ?_
        refine lv_aload_n hx hb dX6_learn_81 rfl (lv_at hl 2 rfl) ?_
        refine lv_iload_n hx hb dX6_learn_82 rfl (lv_at hl 3 rfl) ?_
        refine lv_iload_n hx hb dX6_learn_83 rfl (lv_at hl 1 rfl) ?_
        refine z_callVi (As := [.int (nI p), .int (nI (zmost (zrow f p) k 4))]) (rest := [.int (nI (zmost (zrow f p) k 4)), .int (nI p), .ref a]) (ci := 6) (k0 := 0) Z hP hD hS hl.1 (zc_X6_expected l D cI cZ a b (upd f (p * 4 + k) ((f (p * 4 + k)) + 1)) p (zmost (zrow f p) k 4) (by omega) (by omega)) zm405 zm334 zm335 zm33 zm336 ⟨rfl, zd_X6_expected⟩ ⟨Nat.le_of_ble_eq_true rfl, Nat.le_of_ble_eq_true rfl⟩ ⟨Nat.zero_le _, Nat.zero_le _⟩ [0, 1] rfl (by decide) rfl rfl rfl (fun _ => rfl) rfl (Nat.le_of_ble_eq_true rfl) rfl dX6_learn_84 (fun r_12 u H locs h_13 hP hD hS => ?_)
        have hP : va_P D vwCl [(a, .inr (6, [.ref b])), (b, .inl (cI, 36, .inl (upd f (p * 4 + k) ((f (p * 4 + k)) + 1))))] H := hP
        have hD : va_D A [(a, .inr (6, [.ref b])), (b, .inl (cI, 36, .inl (upd f (p * 4 + k) ((f (p * 4 + k)) + 1))))] := hD
        have h_13 : r_12 = (upd f (p * 4 + k) ((f (p * 4 + k)) + 1)) (p * 4 + (zmost (zrow f p) k 4)) := h_13
        subst h_13
        refine lv_iconst (v := nI 1) hx hb dX6_learn_87 (by decide) ?_
        refine lv_isub hx hb dX6_learn_88 ?_
        refine z_top (y := ((upd f (p * 4 + k) ((f (p * 4 + k)) + 1)) (p * 4 + (zmost (zrow f p) k 4))) - 1) rfl ?_
        refine z_callVv (As := [.int (nI p), .int (nI (zmost (zrow f p) k 4)), .int (((upd f (p * 4 + k) ((f (p * 4 + k)) + 1)) (p * 4 + (zmost (zrow f p) k 4))) - 1)]) (rest := []) (ci := 6) (k0 := 0) Z hP hD hS hl.1 (zc_X6_setExpected l D cI cZ a b (upd f (p * 4 + k) ((f (p * 4 + k)) + 1)) p (zmost (zrow f p) k 4) (((upd f (p * 4 + k) ((f (p * 4 + k)) + 1)) (p * 4 + (zmost (zrow f p) k 4))) - 1) (by omega) (by omega)) zm406 zm254 zm255 zm33 zm256 ⟨rfl, zd_X6_setExpected⟩ ⟨Nat.le_of_ble_eq_true rfl, Nat.le_of_ble_eq_true rfl⟩ ⟨Nat.zero_le _, Nat.zero_le _⟩ [0, 1] rfl (by decide) rfl rfl rfl (fun _ => rfl) rfl (Nat.le_of_ble_eq_true rfl) rfl dX6_learn_89 (fun u H locs h_15 hP hD hS => ?_)
        have hP : va_P D vwCl [(a, .inr (6, [.ref b])), (b, .inl (cI, 36, .inl (upd (upd f (p * 4 + k) ((f (p * 4 + k)) + 1)) (p * 4 + (zmost (zrow f p) k 4)) (((upd f (p * 4 + k) ((f (p * 4 + k)) + 1)) (p * 4 + (zmost (zrow f p) k 4))) - 1))))] H := hP
        have hD : va_D A [(a, .inr (6, [.ref b])), (b, .inl (cI, 36, .inl (upd (upd f (p * 4 + k) ((f (p * 4 + k)) + 1)) (p * 4 + (zmost (zrow f p) k 4)) (((upd f (p * 4 + k) ((f (p * 4 + k)) + 1)) (p * 4 + (zmost (zrow f p) k 4))) - 1))))] := hD
        have e_16 : upd (upd f (p * 4 + k) ((f (p * 4 + k)) + 1)) (p * 4 + (zmost (zrow f p) k 4)) (((upd f (p * 4 + k) ((f (p * 4 + k)) + 1)) (p * 4 + (zmost (zrow f p) k 4))) - 1) = zlearn f p k := by (first | rfl | (simp [zlearn, zrow, c_3, c_7]; done) | (simp_all [zlearn, zrow]; done))
        have hP : va_P D vwCl [(a, .inr (6, [.ref b])), (b, .inl (cI, 36, .inl (zlearn f p k)))] H := Eq.subst (motive := fun zz_ => va_P D vwCl [(a, .inr (6, [.ref b])), (b, .inl (cI, 36, .inl zz_))] H) e_16 hP
        have hD : va_D A [(a, .inr (6, [.ref b])), (b, .inl (cI, 36, .inl (zlearn f p k)))] := zD_of hD rfl
        exact z_vret Z () trivial hP hS dX6_learn_92
      · have c_7 := znle (i := 4) (j := o) (by decide) (by omega) c_7
        refine lv_iload hx hb dX6_learn_33 (lv_at hl 0 rfl) ?_
        refine lv_iload_n hx hb dX6_learn_35 rfl (lv_at hl 4 rfl) ?_
        refine lv_icmp_eq (tgt := 58) hx hb dX6_learn_36 (by decide) (fun c_17 => ?_) (fun c_17 => ?_)
        · have c_17 := zeq (i := o) (j := k) (by omega) (by omega) c_17
          refine lv_iinc (v := nI (o + 1)) (lv' := [(4, .int (nI (o + 1))), (3, .int (nI (zmost (zrow f p) k o))), (0, .ref a), (1, .int (nI p)), (2, .int (nI k))]) hx hb dX6_learn_58 hl (k := 0) rfl (z_inc _ 1) (by decide) rfl (fun ls hl => ?_)
          refine lv_goto (tgt := 27) hx hb dX6_learn_61 (by decide) ?_
          have hl : lv_has ls 5 [(4, .int (nI (o + 1))), (3, .int (nI (zmost (zrow f p) k o))), (0, .ref a), (1, .int (nI p)), (2, .int (nI k))] := lv_sub hl [0, 1, 2, 3, 4] rfl
          have e_18 : nI (zmost (zrow f p) k o) = nI (zmost (zrow f p) k (o + 1)) := by (first | rfl | (simp [zlearn, zrow, zmost, zrow, c_3, c_7, c_17]; done) | (simp_all [zlearn, zrow, zmost, zrow]; done))
          have hl : lv_has ls 5 [(4, .int (nI (o + 1))), (3, .int (nI (zmost (zrow f p) k (o + 1)))), (0, .ref a), (1, .int (nI p)), (2, .int (nI k))] := Eq.subst (motive := fun zz_ => lv_has ls 5 [(4, .int (nI (o + 1))), (3, .int zz_), (0, .ref a), (1, .int (nI p)), (2, .int (nI k))]) e_18 hl
          exact ih_5 _ _ _ (by omega) ⟨hP, hD, hS, hl⟩
        · have c_17 := zne (i := o) (j := k) c_17
          refine lv_aload_n hx hb dX6_learn_39 rfl (lv_at hl 2 rfl) ?_
          refine lv_iload_n hx hb dX6_learn_40 rfl (lv_at hl 3 rfl) ?_
          refine lv_iload hx hb dX6_learn_41 (lv_at hl 0 rfl) ?_
          refine z_callVi (As := [.int (nI p), .int (nI o)]) (rest := []) (ci := 6) (k0 := 0) Z hP hD hS hl.1 (zc_X6_expected l D cI cZ a b f p o (by omega) (by omega)) zm405 zm334 zm335 zm33 zm336 ⟨rfl, zd_X6_expected⟩ ⟨Nat.le_of_ble_eq_true rfl, Nat.le_of_ble_eq_true rfl⟩ ⟨Nat.zero_le _, Nat.zero_le _⟩ [0, 1] rfl (by decide) rfl rfl rfl (fun _ => rfl) rfl (Nat.le_of_ble_eq_true rfl) rfl dX6_learn_43 (fun r_19 u H locs h_20 hP hD hS => ?_)
          have hP : va_P D vwCl [(a, .inr (6, [.ref b])), (b, .inl (cI, 36, .inl f))] H := hP
          have hD : va_D A [(a, .inr (6, [.ref b])), (b, .inl (cI, 36, .inl f))] := hD
          have h_20 : r_19 = f (p * 4 + o) := h_20
          subst h_20
          refine lv_aload_n hx hb dX6_learn_46 rfl (lv_at hl 2 rfl) ?_
          refine lv_iload_n hx hb dX6_learn_47 rfl (lv_at hl 3 rfl) ?_
          refine lv_iload_n hx hb dX6_learn_48 rfl (lv_at hl 1 rfl) ?_
          refine z_callVi (As := [.int (nI p), .int (nI (zmost (zrow f p) k o))]) (rest := [.int (f (p * 4 + o))]) (ci := 6) (k0 := 0) Z hP hD hS hl.1 (zc_X6_expected l D cI cZ a b f p (zmost (zrow f p) k o) (by omega) (by omega)) zm405 zm334 zm335 zm33 zm336 ⟨rfl, zd_X6_expected⟩ ⟨Nat.le_of_ble_eq_true rfl, Nat.le_of_ble_eq_true rfl⟩ ⟨Nat.zero_le _, Nat.zero_le _⟩ [0, 1] rfl (by decide) rfl rfl rfl (fun _ => rfl) rfl (Nat.le_of_ble_eq_true rfl) rfl dX6_learn_49 (fun r_21 u H locs h_22 hP hD hS => ?_)
          have hP : va_P D vwCl [(a, .inr (6, [.ref b])), (b, .inl (cI, 36, .inl f))] H := hP
          have hD : va_D A [(a, .inr (6, [.ref b])), (b, .inl (cI, 36, .inl f))] := hD
          have h_22 : r_21 = f (p * 4 + (zmost (zrow f p) k o)) := h_22
          subst h_22
          refine lv_icmp_le (tgt := 58) hx hb dX6_learn_52 (by decide) (fun c_23 => ?_) (fun c_23 => ?_)
          · have c_23 : (f (p * 4 + o)) ≤ (f (p * 4 + (zmost (zrow f p) k o))) := c_23
            refine lv_iinc (v := nI (o + 1)) (lv' := [(4, .int (nI (o + 1))), (3, .int (nI (zmost (zrow f p) k o))), (0, .ref a), (1, .int (nI p)), (2, .int (nI k))]) hx hb dX6_learn_58 hl (k := 0) rfl (z_inc _ 1) (by decide) rfl (fun ls hl => ?_)
            refine lv_goto (tgt := 27) hx hb dX6_learn_61 (by decide) ?_
            have hl : lv_has ls 5 [(4, .int (nI (o + 1))), (3, .int (nI (zmost (zrow f p) k o))), (0, .ref a), (1, .int (nI p)), (2, .int (nI k))] := lv_sub hl [0, 1, 2, 3, 4] rfl
            have e_24 : nI (zmost (zrow f p) k o) = nI (zmost (zrow f p) k (o + 1)) := by (first | rfl | (simp [zlearn, zrow, zmost, zrow, c_3, c_7, c_17, c_23]; done) | (simp_all [zlearn, zrow, zmost, zrow]; done))
            have hl : lv_has ls 5 [(4, .int (nI (o + 1))), (3, .int (nI (zmost (zrow f p) k (o + 1)))), (0, .ref a), (1, .int (nI p)), (2, .int (nI k))] := Eq.subst (motive := fun zz_ => lv_has ls 5 [(4, .int (nI (o + 1))), (3, .int zz_), (0, .ref a), (1, .int (nI p)), (2, .int (nI k))]) e_24 hl
            exact ih_5 _ _ _ (by omega) ⟨hP, hD, hS, hl⟩
          · have c_23 : ¬ ((f (p * 4 + o)) ≤ (f (p * 4 + (zmost (zrow f p) k o)))) := c_23
            refine lv_iload hx hb dX6_learn_55 (lv_at hl 0 rfl) ?_
            refine lv_istore_n (lv' := [(3, .int (nI o)), (4, .int (nI o)), (0, .ref a), (1, .int (nI p)), (2, .int (nI k))]) hx hb dX6_learn_57 rfl hl (by decide) rfl (fun ls hl => ?_)
            refine lv_iinc (v := nI (o + 1)) (lv' := [(4, .int (nI (o + 1))), (3, .int (nI o)), (0, .ref a), (1, .int (nI p)), (2, .int (nI k))]) hx hb dX6_learn_58 hl (k := 1) rfl (z_inc _ 1) (by decide) rfl (fun ls hl => ?_)
            refine lv_goto (tgt := 27) hx hb dX6_learn_61 (by decide) ?_
            have hl : lv_has ls 5 [(4, .int (nI (o + 1))), (3, .int (nI o)), (0, .ref a), (1, .int (nI p)), (2, .int (nI k))] := lv_sub hl [0, 1, 2, 3, 4] rfl
            have e_25 : nI o = nI (zmost (zrow f p) k (o + 1)) := by (first | rfl | (simp [zlearn, zrow, zmost, zrow, c_3, c_7, c_17, c_23]; done) | (simp_all [zlearn, zrow, zmost, zrow]; done))
            have hl : lv_has ls 5 [(4, .int (nI (o + 1))), (3, .int (nI (zmost (zrow f p) k (o + 1)))), (0, .ref a), (1, .int (nI p)), (2, .int (nI k))] := Eq.subst (motive := fun zz_ => lv_has ls 5 [(4, .int (nI (o + 1))), (3, .int zz_), (0, .ref a), (1, .int (nI p)), (2, .int (nI k))]) e_25 hl
            exact ih_5 _ _ _ (by omega) ⟨hP, hD, hS, hl⟩
    · skip
      refine lv_if_ne (tgt := 20) hx hb dX6_learn_13 (by decide) (fun c_26 => ?_) (fun c_26 => ?_)
      · have c_26 := zne (i := k) (j := 0) c_26
        refine lv_iconst (v := nI 0) hx hb dX6_learn_20 (by decide) ?_
        have hl : lv_has ls 5 [(0, .ref a), (1, .int (nI p)), (2, .int (nI k))] := lv_sub hl [0, 1, 2] rfl
        refine z_top (y := nI (zmf k)) (by (first | rfl | (simp [zlearn, zrow, zmf, c_3, c_26]; done) | (simp_all [zlearn, zrow, zmf]; done))) ?_
        exact k_4 _ _ _ ⟨hP, hD, hS, hl⟩
      · have c_26 := zeq (i := k) (j := 0) (by omega) (by decide) c_26
        refine lv_iconst (v := nI 1) hx hb dX6_learn_16 (by decide) ?_
        refine lv_goto (tgt := 21) hx hb dX6_learn_17 (by decide) ?_
        have hl : lv_has ls 5 [(0, .ref a), (1, .int (nI p)), (2, .int (nI k))] := lv_sub hl [0, 1, 2] rfl
        refine z_top (y := nI (zmf k)) (by (first | rfl | (simp [zlearn, zrow, zmf, c_3, c_26]; done) | (simp_all [zlearn, zrow, zmf]; done))) ?_
        exact k_4 _ _ _ ⟨hP, hD, hS, hl⟩
  · have c_3 : ¬ ((f (p * 4 + k)) < 10) := c_3
    have e_27 : f = zlearn f p k := by (first | rfl | (simp [zlearn, zrow, c_3]; done) | (simp_all [zlearn, zrow]; done))
    have hP : va_P D vwCl [(a, .inr (6, [.ref b])), (b, .inl (cI, 36, .inl (zlearn f p k)))] H := Eq.subst (motive := fun zz_ => va_P D vwCl [(a, .inr (6, [.ref b])), (b, .inl (cI, 36, .inl zz_))] H) e_27 hP
    have hD : va_D A [(a, .inr (6, [.ref b])), (b, .inl (cI, 36, .inl (zlearn f p k)))] := zD_of hD rfl
    exact z_vret Z () trivial hP hS dX6_learn_11

theorem dX6_expectOnly_0 : decode cX6_expectOnly 0 = .ok (.iconst 0, 1) := by decide +kernel
theorem dX6_expectOnly_1 : decode cX6_expectOnly 1 = .ok (.istore_n 3, 1) := by decide +kernel
theorem dX6_expectOnly_2 : decode cX6_expectOnly 2 = .ok (.iload_n 3, 1) := by decide +kernel
theorem dX6_expectOnly_3 : decode cX6_expectOnly 3 = .ok (.iconst 4, 1) := by decide +kernel
theorem dX6_expectOnly_4 : decode cX6_expectOnly 4 = .ok (.if_icmp .ge 16, 3) := by decide +kernel
theorem dX6_expectOnly_7 : decode cX6_expectOnly 7 = .ok (.aload_n 0, 1) := by decide +kernel
theorem dX6_expectOnly_8 : decode cX6_expectOnly 8 = .ok (.iload_n 1, 1) := by decide +kernel
theorem dX6_expectOnly_9 : decode cX6_expectOnly 9 = .ok (.iload_n 3, 1) := by decide +kernel
theorem dX6_expectOnly_10 : decode cX6_expectOnly 10 = .ok (.iconst 0, 1) := by decide +kernel
theorem dX6_expectOnly_11 : decode cX6_expectOnly 11 = .ok (.invokevirtual 50, 3) := by decide +kernel
theorem dX6_expectOnly_14 : decode cX6_expectOnly 14 = .ok (.iinc 3 1, 3) := by decide +kernel
theorem dX6_expectOnly_17 : decode cX6_expectOnly 17 = .ok (.goto (-15), 3) := by decide +kernel
theorem dX6_expectOnly_20 : decode cX6_expectOnly 20 = .ok (.aload_n 0, 1) := by decide +kernel
theorem dX6_expectOnly_21 : decode cX6_expectOnly 21 = .ok (.iload_n 1, 1) := by decide +kernel
theorem dX6_expectOnly_22 : decode cX6_expectOnly 22 = .ok (.iload_n 2, 1) := by decide +kernel
theorem dX6_expectOnly_23 : decode cX6_expectOnly 23 = .ok (.bipush 10, 2) := by decide +kernel
theorem dX6_expectOnly_25 : decode cX6_expectOnly 25 = .ok (.invokevirtual 50, 3) := by decide +kernel
theorem dX6_expectOnly_28 : decode cX6_expectOnly 28 = .ok (.return_, 1) := by decide +kernel
theorem zd_X6_expectOnly : yX6_expectOnly.cls ≠ "java/lang/invoke/MethodHandle" ∧ yX6_expectOnly.cls ≠ "java/lang/invoke/VarHandle" ∧ (parseMethodDescriptor yX6_expectOnly.desc).map (fun d => d.parameters.length) = some 2 := by decide +kernel
set_option maxHeartbeats 4000000 in
set_option maxRecDepth 100000 in
theorem zc_X6_expectOnly (l : Launch) (D : va_G) (cI cZ : ClassId) (a : Nat) (b : Nat) (f : Nat → Int32) (p : Nat) (k : Nat) (hp : p < 5) (hk : k < 4) : zV l yX6_expectOnly cX6_expectOnly 4 1 23 D cI cZ [.ref a, .int (nI p), .int (nI k)] [(a, .inr (6, [.ref b])), (b, .inl (cI, 36, .inl f))] (fun (u : Unit) => True) (fun (u : Unit) => [(a, .inr (6, [.ref b])), (b, .inl (cI, 36, .inl (upd (zeo f p 4) (p * 4 + k) 10)))]) := by
  refine zV_of (by decide) (Nat.le_of_ble_eq_true rfl) ?_
  intro pP eE sS mM aA bB mT cC A ls Z hP hD hS hl
  have hx := Z.1
  have hb := Z.2.1
  have hown := Z.2.2.2.2.2.1
  have hts := Z.2.2.2.2.1
  have Z : zAt pP sS mM aA mT cC D cI cZ A "SurpriseTax$State" cX6_expectOnly 4 none := Z
  have hl : lv_has ls 4 [(0, .ref a), (1, .int (nI p)), (2, .int (nI k))] := hl
  obtain ⟨H, hH⟩ : ∃ H, H = sS.heap := ⟨_, rfl⟩
  have hP : va_P D vwCl [(a, .inr (6, [.ref b])), (b, .inl (cI, 36, .inl f))] H := by rw [hH]; exact hP
  have hS : va_S A sS.heap H [] := by rw [hH]; exact hS
  rw [← hH]
  clear hH
  obtain ⟨locs, hlo⟩ : ∃ q : List Loc, q = [] := ⟨_, rfl⟩
  rw [← hlo] at hS ⊢
  clear hlo
  refine lv_iconst (v := nI 0) hx hb dX6_expectOnly_0 (by decide) ?_
  refine lv_istore_n (lv' := [(3, .int (nI 0)), (0, .ref a), (1, .int (nI p)), (2, .int (nI k))]) hx hb dX6_expectOnly_1 rfl hl (by decide) rfl (fun ls hl => ?_)
  have e_2 : f = zeo f p 0 := by first | rfl | exact (zeo_0 f p).symm
  have hP : va_P D vwCl [(a, .inr (6, [.ref b])), (b, .inl (cI, 36, .inl (zeo f p 0)))] H := Eq.subst (motive := fun zz_ => va_P D vwCl [(a, .inr (6, [.ref b])), (b, .inl (cI, 36, .inl zz_))] H) e_2 hP
  have hD : va_D A [(a, .inr (6, [.ref b])), (b, .inl (cI, 36, .inl (zeo f p 0)))] := zD_of hD rfl
  have hl : lv_has ls 4 [(3, .int (nI 0)), (0, .ref a), (1, .int (nI p)), (2, .int (nI k))] := lv_sub hl [0, 1, 2, 3] rfl
  refine z_loop (fun i H locs ls => va_P D vwCl [(a, .inr (6, [.ref b])), (b, .inl (cI, 36, .inl (zeo f p i)))] H ∧ va_D A [(a, .inr (6, [.ref b])), (b, .inl (cI, 36, .inl (zeo f p i)))] ∧ va_S A sS.heap H locs ∧ lv_has ls 4 [(3, .int (nI i)), (0, .ref a), (1, .int (nI p)), (2, .int (nI k))]) (4) (lo := 0) (by omega) ⟨hP, hD, hS, hl⟩ (fun i hi_i ih_1 H locs ls hI => ?_)
  obtain ⟨hP, hD, hS, hl⟩ := hI
  have hP : va_P D vwCl [(a, .inr (6, [.ref b])), (b, .inl (cI, 36, .inl (zeo f p i)))] H := hP
  have hD : va_D A [(a, .inr (6, [.ref b])), (b, .inl (cI, 36, .inl (zeo f p i)))] := hD
  have hl : lv_has ls 4 [(3, .int (nI i)), (0, .ref a), (1, .int (nI p)), (2, .int (nI k))] := hl
  refine lv_iload_n hx hb dX6_expectOnly_2 rfl (lv_at hl 0 rfl) ?_
  refine lv_iconst (v := nI 4) hx hb dX6_expectOnly_3 (by decide) ?_
  refine lv_icmp_ge (tgt := 20) hx hb dX6_expectOnly_4 (by decide) (fun c_3 => ?_) (fun c_3 => ?_)
  · have c_3 := zle (i := 4) (j := i) (by decide) (by omega) c_3
    have hE_ : 4 = i := by omega
    subst hE_
    refine lv_aload_n hx hb dX6_expectOnly_20 rfl (lv_at hl 1 rfl) ?_
    refine lv_iload_n hx hb dX6_expectOnly_21 rfl (lv_at hl 2 rfl) ?_
    refine lv_iload_n hx hb dX6_expectOnly_22 rfl (lv_at hl 3 rfl) ?_
    refine lv_bipush (v := nI 10) hx hb dX6_expectOnly_23 (by decide) ?_
    refine z_callVv (As := [.int (nI p), .int (nI k), .int (nI 10)]) (rest := []) (ci := 6) (k0 := 0) Z hP hD hS hl.1 (zc_X6_setExpected l D cI cZ a b (zeo f p 4) p k (nI 10) (by omega) (by omega)) zm406 zm254 zm255 zm33 zm256 ⟨rfl, zd_X6_setExpected⟩ ⟨Nat.le_of_ble_eq_true rfl, Nat.le_of_ble_eq_true rfl⟩ ⟨Nat.zero_le _, Nat.zero_le _⟩ [0, 1] rfl (by decide) rfl rfl rfl (fun _ => rfl) rfl (Nat.le_of_ble_eq_true rfl) rfl dX6_expectOnly_25 (fun u H locs h_5 hP hD hS => ?_)
    have hP : va_P D vwCl [(a, .inr (6, [.ref b])), (b, .inl (cI, 36, .inl (upd (zeo f p 4) (p * 4 + k) (nI 10))))] H := hP
    have hD : va_D A [(a, .inr (6, [.ref b])), (b, .inl (cI, 36, .inl (upd (zeo f p 4) (p * 4 + k) (nI 10))))] := hD
    have e_6 : upd (zeo f p 4) (p * 4 + k) (nI 10) = upd (zeo f p 4) (p * 4 + k) 10 := by (first | rfl | (simp [c_3]; done) | (simp_all []; done))
    have hP : va_P D vwCl [(a, .inr (6, [.ref b])), (b, .inl (cI, 36, .inl (upd (zeo f p 4) (p * 4 + k) 10)))] H := Eq.subst (motive := fun zz_ => va_P D vwCl [(a, .inr (6, [.ref b])), (b, .inl (cI, 36, .inl zz_))] H) e_6 hP
    have hD : va_D A [(a, .inr (6, [.ref b])), (b, .inl (cI, 36, .inl (upd (zeo f p 4) (p * 4 + k) 10)))] := zD_of hD rfl
    exact z_vret Z () trivial hP hS dX6_expectOnly_28
  · have c_3 := znle (i := 4) (j := i) (by decide) (by omega) c_3
    refine lv_aload_n hx hb dX6_expectOnly_7 rfl (lv_at hl 1 rfl) ?_
    refine lv_iload_n hx hb dX6_expectOnly_8 rfl (lv_at hl 2 rfl) ?_
    refine lv_iload_n hx hb dX6_expectOnly_9 rfl (lv_at hl 0 rfl) ?_
    refine lv_iconst (v := nI 0) hx hb dX6_expectOnly_10 (by decide) ?_
    refine z_callVv (As := [.int (nI p), .int (nI i), .int (nI 0)]) (rest := []) (ci := 6) (k0 := 0) Z hP hD hS hl.1 (zc_X6_setExpected l D cI cZ a b (zeo f p i) p i (nI 0) (by omega) (by omega)) zm406 zm254 zm255 zm33 zm256 ⟨rfl, zd_X6_setExpected⟩ ⟨Nat.le_of_ble_eq_true rfl, Nat.le_of_ble_eq_true rfl⟩ ⟨Nat.zero_le _, Nat.zero_le _⟩ [0, 1] rfl (by decide) rfl rfl rfl (fun _ => rfl) rfl (Nat.le_of_ble_eq_true rfl) rfl dX6_expectOnly_11 (fun u H locs h_8 hP hD hS => ?_)
    have hP : va_P D vwCl [(a, .inr (6, [.ref b])), (b, .inl (cI, 36, .inl (upd (zeo f p i) (p * 4 + i) (nI 0))))] H := hP
    have hD : va_D A [(a, .inr (6, [.ref b])), (b, .inl (cI, 36, .inl (upd (zeo f p i) (p * 4 + i) (nI 0))))] := hD
    refine lv_iinc (v := nI (i + 1)) (lv' := [(3, .int (nI (i + 1))), (0, .ref a), (1, .int (nI p)), (2, .int (nI k))]) hx hb dX6_expectOnly_14 hl (k := 0) rfl (z_inc _ 1) (by decide) rfl (fun ls hl => ?_)
    refine lv_goto (tgt := 2) hx hb dX6_expectOnly_17 (by decide) ?_
    have e_9 : upd (zeo f p i) (p * 4 + i) (nI 0) = zeo f p (i + 1) := by first | rfl | exact zeo_s f p i
    have hP : va_P D vwCl [(a, .inr (6, [.ref b])), (b, .inl (cI, 36, .inl (zeo f p (i + 1))))] H := Eq.subst (motive := fun zz_ => va_P D vwCl [(a, .inr (6, [.ref b])), (b, .inl (cI, 36, .inl zz_))] H) e_9 hP
    have hD : va_D A [(a, .inr (6, [.ref b])), (b, .inl (cI, 36, .inl (zeo f p (i + 1))))] := zD_of hD rfl
    have hl : lv_has ls 4 [(3, .int (nI (i + 1))), (0, .ref a), (1, .int (nI p)), (2, .int (nI k))] := lv_sub hl [0, 1, 2, 3] rfl
    exact ih_1 _ _ _ (by omega) ⟨hP, hD, hS, hl⟩
