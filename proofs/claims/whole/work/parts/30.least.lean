theorem zdy_a {od t Y : Nat → Int32} {rt fr he a b dc : Int32} {P : Prop} [Decidable P] {k : Nat} (h : P) : zdy od t rt fr he a b dc (fun k => if P then 0 else Y k) k + od k * (rt * zsu (t k) dc he (nI k) fr * a + nI 0) = zdy od t rt fr he a b dc (fun k => if P then 0 else Y k) (k + 1) := by
  show _ = zdy od t rt fr he a b dc (fun k => if P then 0 else Y k) k + od k * (rt * zsu (t k) dc he (nI k) fr * a + (if P then 0 else Y k))
  rw [if_pos h]; rfl
theorem zdy_b {od t Y : Nat → Int32} {rt fr he a b dc : Int32} {P : Prop} [Decidable P] {k : Nat} (h : ¬ P) : zdy od t rt fr he a b dc (fun k => if P then 0 else Y k) k + od k * (rt * zsu (t k) dc he (nI k) fr * a + Y k) = zdy od t rt fr he a b dc (fun k => if P then 0 else Y k) (k + 1) := by
  show _ = zdy od t rt fr he a b dc (fun k => if P then 0 else Y k) k + od k * (rt * zsu (t k) dc he (nI k) fr * a + (if P then 0 else Y k))
  rw [if_neg h]
theorem zdn_0 {d : Nat} : nI d - 1 = nI (d - 0) - 1 := rfl
theorem zp4p {a b : Nat} (h : b ≤ 3) (h2 : a ≤ b) : 4 ^ a ≤ 64 ∧ 0 < 4 ^ a := ⟨(Nat.pow_le_pow_right (show 0 < 4 by decide) (show a ≤ 3 by omega) : 4 ^ a ≤ 4 ^ 3), Nat.pow_pos (by decide)⟩
theorem dX9_layBehind_0 : decode cX9_layBehind 0 = .ok (.iconst 0, 1) := by decide +kernel
theorem dX9_layBehind_1 : decode cX9_layBehind 1 = .ok (.istore 4, 2) := by decide +kernel
theorem dX9_layBehind_3 : decode cX9_layBehind 3 = .ok (.iload 4, 2) := by decide +kernel
theorem dX9_layBehind_5 : decode cX9_layBehind 5 = .ok (.iconst 4, 1) := by decide +kernel
theorem dX9_layBehind_6 : decode cX9_layBehind 6 = .ok (.if_icmp .ge 28, 3) := by decide +kernel
theorem dX9_layBehind_9 : decode cX9_layBehind 9 = .ok (.aload_n 0, 1) := by decide +kernel
theorem dX9_layBehind_10 : decode cX9_layBehind 10 = .ok (.getfield 53, 3) := by decide +kernel
theorem dX9_layBehind_13 : decode cX9_layBehind 13 = .ok (.iload 4, 2) := by decide +kernel
theorem dX9_layBehind_15 : decode cX9_layBehind 15 = .ok (.aload_n 0, 1) := by decide +kernel
theorem dX9_layBehind_16 : decode cX9_layBehind 16 = .ok (.getfield 34, 3) := by decide +kernel
theorem dX9_layBehind_19 : decode cX9_layBehind 19 = .ok (.bipush 7, 2) := by decide +kernel
theorem dX9_layBehind_21 : decode cX9_layBehind 21 = .ok (.iload_n 1, 1) := by decide +kernel
theorem dX9_layBehind_22 : decode cX9_layBehind 22 = .ok (.imul, 1) := by decide +kernel
theorem dX9_layBehind_23 : decode cX9_layBehind 23 = .ok (.iload 4, 2) := by decide +kernel
theorem dX9_layBehind_25 : decode cX9_layBehind 25 = .ok (.iadd, 1) := by decide +kernel
theorem dX9_layBehind_26 : decode cX9_layBehind 26 = .ok (.iaload, 1) := by decide +kernel
theorem dX9_layBehind_27 : decode cX9_layBehind 27 = .ok (.iastore, 1) := by decide +kernel
theorem dX9_layBehind_28 : decode cX9_layBehind 28 = .ok (.iinc 4 1, 3) := by decide +kernel
theorem dX9_layBehind_31 : decode cX9_layBehind 31 = .ok (.goto (-28), 3) := by decide +kernel
theorem dX9_layBehind_34 : decode cX9_layBehind 34 = .ok (.iload_n 2, 1) := by decide +kernel
theorem dX9_layBehind_35 : decode cX9_layBehind 35 = .ok (.iconst 1, 1) := by decide +kernel
theorem dX9_layBehind_36 : decode cX9_layBehind 36 = .ok (.isub, 1) := by decide +kernel
theorem dX9_layBehind_37 : decode cX9_layBehind 37 = .ok (.istore 4, 2) := by decide +kernel
theorem dX9_layBehind_39 : decode cX9_layBehind 39 = .ok (.iload 4, 2) := by decide +kernel
theorem dX9_layBehind_41 : decode cX9_layBehind 41 = .ok (.ifCond .lt 26, 3) := by decide +kernel
theorem dX9_layBehind_44 : decode cX9_layBehind 44 = .ok (.aload_n 0, 1) := by decide +kernel
theorem dX9_layBehind_45 : decode cX9_layBehind 45 = .ok (.getfield 53, 3) := by decide +kernel
theorem dX9_layBehind_48 : decode cX9_layBehind 48 = .ok (.iconst 0, 1) := by decide +kernel
theorem dX9_layBehind_49 : decode cX9_layBehind 49 = .ok (.iload_n 3, 1) := by decide +kernel
theorem dX9_layBehind_50 : decode cX9_layBehind 50 = .ok (.iload 4, 2) := by decide +kernel
theorem dX9_layBehind_52 : decode cX9_layBehind 52 = .ok (.invokestatic 187, 3) := by decide +kernel
theorem dX9_layBehind_55 : decode cX9_layBehind 55 = .ok (.idiv, 1) := by decide +kernel
theorem dX9_layBehind_56 : decode cX9_layBehind 56 = .ok (.iconst 4, 1) := by decide +kernel
theorem dX9_layBehind_57 : decode cX9_layBehind 57 = .ok (.irem, 1) := by decide +kernel
theorem dX9_layBehind_58 : decode cX9_layBehind 58 = .ok (.invokestatic 160, 3) := by decide +kernel
theorem dX9_layBehind_61 : decode cX9_layBehind 61 = .ok (.iinc 4 (-1), 3) := by decide +kernel
theorem dX9_layBehind_64 : decode cX9_layBehind 64 = .ok (.goto (-25), 3) := by decide +kernel
theorem dX9_layBehind_67 : decode cX9_layBehind 67 = .ok (.return_, 1) := by decide +kernel
theorem zd_X9_layBehind : yX9_layBehind.cls ≠ "java/lang/invoke/MethodHandle" ∧ yX9_layBehind.cls ≠ "java/lang/invoke/VarHandle" ∧ (parseMethodDescriptor yX9_layBehind.desc).map (fun d => d.parameters.length) = some 3 := by decide +kernel
set_option maxHeartbeats 4000000 in
set_option maxRecDepth 100000 in
theorem zc_X9_layBehind (l : Launch) (D : va_G) (cI cZ : ClassId) (M : Nat) (th : Int32) (mtx : Nat) (len : Nat) (pl : Nat) (rt : Int32) (fr : Int32) (pr : Int32) (mod_ : Nat) (n : Nat) (mne : Nat) (mro : Nat) (m : Nat) (rrt : Int32) (rfr : Int32) (rpr : Int32) (mrod : Nat) (rn9 : Nat) (mrne : Nat) (mrro : Nat) (rm9 : Nat) (mrp : Nat) (mpg : Nat) (mbk : Nat) (ac : Nat) (mke : Nat) (mik : Nat) (cr : Nat) (mrw : Nat) (mrd : Nat) (sd : Int64) (mtr : Nat) (mwo : Nat) (mnx : Nat) (jr : Int32) (g : Nat → Int32) (f : Nat → Int32) (t : Nat → Int32) (p : Nat) (d : Nat) (w : Nat) (hn : n ≤ 5) (hp : p < n) (hd : d ≤ 4) (hw : w < 2147483648) (hpg : zpr n f g) (hpv : zpv n f) : zV l yX9_layBehind cX9_layBehind 5 1 24 D cI cZ [.ref M, .int (nI p), .int (nI d), .int (nI w)] [(M, .inr (9, [.int th, .ref mtx, .int (nI len), .int (nI pl), .int rt, .int fr, .int pr, .ref mod_, .int (nI n), .ref mne, .ref mro, .int (nI m), .int rrt, .int rfr, .int rpr, .ref mrod, .int (nI rn9), .ref mrne, .ref mrro, .int (nI rm9), .ref mrp, .ref mpg, .ref mbk, .int (nI ac), .ref mke, .ref mik, .int (nI cr), .ref mrw, .ref mrd, .long sd, .ref mtr, .ref mwo, .ref mnx, .int jr])), (mpg, .inl (cI, 36, .inl g)), (mtr, .inl (cI, 36, .inl t))] (fun (u : (Nat → Int32)) => ∀ j, j < 4 → u j = zpg f rt fr n d w d (p * 4 + j)) (fun (u : (Nat → Int32)) => [(M, .inr (9, [.int th, .ref mtx, .int (nI len), .int (nI pl), .int rt, .int fr, .int pr, .ref mod_, .int (nI n), .ref mne, .ref mro, .int (nI m), .int rrt, .int rfr, .int rpr, .ref mrod, .int (nI rn9), .ref mrne, .ref mrro, .int (nI rm9), .ref mrp, .ref mpg, .ref mbk, .int (nI ac), .ref mke, .ref mik, .int (nI cr), .ref mrw, .ref mrd, .long sd, .ref mtr, .ref mwo, .ref mnx, .int jr])), (mpg, .inl (cI, 36, .inl g)), (mtr, .inl (cI, 36, .inl u))]) := by
  refine zV_of (by decide) (Nat.le_of_ble_eq_true rfl) ?_
  intro pP eE sS mM aA bB mT cC A ls Z hP hD hS hl
  have hx := Z.1
  have hb := Z.2.1
  have hown := Z.2.2.2.2.2.1
  have hts := Z.2.2.2.2.1
  have Z : zAt pP sS mM aA mT cC D cI cZ A "SurpriseTaxModel" cX9_layBehind 5 none := Z
  have hl : lv_has ls 5 [(0, .ref M), (1, .int (nI p)), (2, .int (nI d)), (3, .int (nI w))] := hl
  obtain ⟨H, hH⟩ : ∃ H, H = sS.heap := ⟨_, rfl⟩
  have hP : va_P D vwCl [(M, .inr (9, [.int th, .ref mtx, .int (nI len), .int (nI pl), .int rt, .int fr, .int pr, .ref mod_, .int (nI n), .ref mne, .ref mro, .int (nI m), .int rrt, .int rfr, .int rpr, .ref mrod, .int (nI rn9), .ref mrne, .ref mrro, .int (nI rm9), .ref mrp, .ref mpg, .ref mbk, .int (nI ac), .ref mke, .ref mik, .int (nI cr), .ref mrw, .ref mrd, .long sd, .ref mtr, .ref mwo, .ref mnx, .int jr])), (mpg, .inl (cI, 36, .inl g)), (mtr, .inl (cI, 36, .inl t))] H := by rw [hH]; exact hP
  have hS : va_S A sS.heap H [] := by rw [hH]; exact hS
  rw [← hH]
  clear hH
  obtain ⟨locs, hlo⟩ : ∃ q : List Loc, q = [] := ⟨_, rfl⟩
  rw [← hlo] at hS ⊢
  clear hlo
  refine lv_iconst (v := nI 0) hx hb dX9_layBehind_0 (by decide) ?_
  refine lv_istore (lv' := [(4, .int (nI 0)), (0, .ref M), (1, .int (nI p)), (2, .int (nI d)), (3, .int (nI w))]) hx hb dX9_layBehind_1 hl (by decide) rfl (fun ls hl => ?_)
  have hl : lv_has ls 5 [(4, .int (nI 0)), (0, .ref M), (1, .int (nI p)), (2, .int (nI d)), (3, .int (nI w))] := lv_sub hl [0, 1, 2, 3, 4] rfl
  refine z_loopm (fun (x_ : Nat × (Nat → Int32)) H locs ls => va_P D vwCl [(M, .inr (9, [.int th, .ref mtx, .int (nI len), .int (nI pl), .int rt, .int fr, .int pr, .ref mod_, .int (nI n), .ref mne, .ref mro, .int (nI m), .int rrt, .int rfr, .int rpr, .ref mrod, .int (nI rn9), .ref mrne, .ref mrro, .int (nI rm9), .ref mrp, .ref mpg, .ref mbk, .int (nI ac), .ref mke, .ref mik, .int (nI cr), .ref mrw, .ref mrd, .long sd, .ref mtr, .ref mwo, .ref mnx, .int jr])), (mpg, .inl (cI, 36, .inl g)), (mtr, .inl (cI, 36, .inl x_.2))] H ∧ va_D A [(M, .inr (9, [.int th, .ref mtx, .int (nI len), .int (nI pl), .int rt, .int fr, .int pr, .ref mod_, .int (nI n), .ref mne, .ref mro, .int (nI m), .int rrt, .int rfr, .int rpr, .ref mrod, .int (nI rn9), .ref mrne, .ref mrro, .int (nI rm9), .ref mrp, .ref mpg, .ref mbk, .int (nI ac), .ref mke, .ref mik, .int (nI cr), .ref mrw, .ref mrd, .long sd, .ref mtr, .ref mwo, .ref mnx, .int jr])), (mpg, .inl (cI, 36, .inl g)), (mtr, .inl (cI, 36, .inl x_.2))] ∧ va_S A sS.heap H locs ∧ lv_has ls 5 [(4, .int (nI x_.1)), (0, .ref M), (1, .int (nI p)), (2, .int (nI d)), (3, .int (nI w))] ∧ (x_.1 ≤ 4) ∧ (∀ y, y < x_.1 → x_.2 y = f (p * 4 + y))) (fun x_ => 4 - x_.1) (0, t) ⟨hP, hD, hS, hl, (by first | omega | exact fun y hy => absurd hy (Nat.not_lt_zero _)), (by first | omega | exact fun y hy => absurd hy (Nat.not_lt_zero _))⟩ (fun x_ ih_1 H locs ls hI => ?_)
  obtain ⟨j, t9⟩ := x_
  obtain ⟨hP, hD, hS, hl, hv3_0, hv3_1⟩ := hI
  dsimp only at ih_1 hv3_0 hv3_1
  have hv3_0 : j ≤ 4 := hv3_0
  have hv3_1 : ∀ y, y < j → t9 y = f (p * 4 + y) := hv3_1
  have hP : va_P D vwCl [(M, .inr (9, [.int th, .ref mtx, .int (nI len), .int (nI pl), .int rt, .int fr, .int pr, .ref mod_, .int (nI n), .ref mne, .ref mro, .int (nI m), .int rrt, .int rfr, .int rpr, .ref mrod, .int (nI rn9), .ref mrne, .ref mrro, .int (nI rm9), .ref mrp, .ref mpg, .ref mbk, .int (nI ac), .ref mke, .ref mik, .int (nI cr), .ref mrw, .ref mrd, .long sd, .ref mtr, .ref mwo, .ref mnx, .int jr])), (mpg, .inl (cI, 36, .inl g)), (mtr, .inl (cI, 36, .inl t9))] H := hP
  have hD : va_D A [(M, .inr (9, [.int th, .ref mtx, .int (nI len), .int (nI pl), .int rt, .int fr, .int pr, .ref mod_, .int (nI n), .ref mne, .ref mro, .int (nI m), .int rrt, .int rfr, .int rpr, .ref mrod, .int (nI rn9), .ref mrne, .ref mrro, .int (nI rm9), .ref mrp, .ref mpg, .ref mbk, .int (nI ac), .ref mke, .ref mik, .int (nI cr), .ref mrw, .ref mrd, .long sd, .ref mtr, .ref mwo, .ref mnx, .int jr])), (mpg, .inl (cI, 36, .inl g)), (mtr, .inl (cI, 36, .inl t9))] := hD
  have hl : lv_has ls 5 [(4, .int (nI j)), (0, .ref M), (1, .int (nI p)), (2, .int (nI d)), (3, .int (nI w))] := hl
  refine lv_iload hx hb dX9_layBehind_3 (lv_at hl 0 rfl) ?_
  refine lv_iconst (v := nI 4) hx hb dX9_layBehind_5 (by decide) ?_
  refine lv_icmp_ge (tgt := 34) hx hb dX9_layBehind_6 (by decide) (fun c_2 => ?_) (fun c_2 => ?_)
  · have c_2 := zle (i := 4) (j := j) (by decide) (by first | omega | exact Nat.pow_pos (by decide) | exact Nat.lt_of_le_of_lt (Nat.pow_le_pow_right (show 0 < 4 by decide) (show d - i - 1 ≤ 4 by omega)) (by decide) | exact Nat.lt_of_le_of_lt (Nat.div_le_self _ _) (by omega)) c_2
    have hE_ : 4 = j := by omega
    subst hE_
    refine lv_iload_n hx hb dX9_layBehind_34 rfl (lv_at hl 3 rfl) ?_
    refine lv_iconst (v := nI 1) hx hb dX9_layBehind_35 (by decide) ?_
    refine lv_isub hx hb dX9_layBehind_36 ?_
    refine lv_istore (lv' := [(4, .int ((nI d) - (nI 1))), (0, .ref M), (1, .int (nI p)), (2, .int (nI d)), (3, .int (nI w))]) hx hb dX9_layBehind_37 hl (by decide) rfl (fun ls hl => ?_)
    have hl : lv_has ls 5 [(4, .int ((nI d) - (nI 1))), (0, .ref M), (1, .int (nI p)), (2, .int (nI d)), (3, .int (nI w))] := lv_sub hl [0, 1, 2, 3, 4] rfl
    have e_4 : (nI d) - (nI 1) = nI (d - 0) - 1 := by first | exact zdn_0 | rfl
    have hl : lv_has ls 5 [(4, .int (nI (d - 0) - 1)), (0, .ref M), (1, .int (nI p)), (2, .int (nI d)), (3, .int (nI w))] := Eq.subst (motive := fun zz_ => lv_has ls 5 [(4, .int zz_), (0, .ref M), (1, .int (nI p)), (2, .int (nI d)), (3, .int (nI w))]) e_4 hl
    refine z_loopm (fun (x_ : Nat × (Nat → Int32)) H locs ls => va_P D vwCl [(M, .inr (9, [.int th, .ref mtx, .int (nI len), .int (nI pl), .int rt, .int fr, .int pr, .ref mod_, .int (nI n), .ref mne, .ref mro, .int (nI m), .int rrt, .int rfr, .int rpr, .ref mrod, .int (nI rn9), .ref mrne, .ref mrro, .int (nI rm9), .ref mrp, .ref mpg, .ref mbk, .int (nI ac), .ref mke, .ref mik, .int (nI cr), .ref mrw, .ref mrd, .long sd, .ref mtr, .ref mwo, .ref mnx, .int jr])), (mpg, .inl (cI, 36, .inl g)), (mtr, .inl (cI, 36, .inl x_.2))] H ∧ va_D A [(M, .inr (9, [.int th, .ref mtx, .int (nI len), .int (nI pl), .int rt, .int fr, .int pr, .ref mod_, .int (nI n), .ref mne, .ref mro, .int (nI m), .int rrt, .int rfr, .int rpr, .ref mrod, .int (nI rn9), .ref mrne, .ref mrro, .int (nI rm9), .ref mrp, .ref mpg, .ref mbk, .int (nI ac), .ref mke, .ref mik, .int (nI cr), .ref mrw, .ref mrd, .long sd, .ref mtr, .ref mwo, .ref mnx, .int jr])), (mpg, .inl (cI, 36, .inl g)), (mtr, .inl (cI, 36, .inl x_.2))] ∧ va_S A sS.heap H locs ∧ lv_has ls 5 [(4, .int (nI (d - x_.1) - 1)), (0, .ref M), (1, .int (nI p)), (2, .int (nI d)), (3, .int (nI w))] ∧ (x_.1 ≤ d) ∧ (∀ j, j < 4 → x_.2 j = zpg f rt fr n d w x_.1 (p * 4 + j))) (fun x_ => d - x_.1) (0, t9) ⟨hP, hD, hS, hl, (by first | omega | exact hv3_1), (by first | omega | exact hv3_1)⟩ (fun x_ ih_3 H locs ls hI => ?_)
    obtain ⟨i, t8⟩ := x_
    obtain ⟨hP, hD, hS, hl, hv39_0, hv39_1⟩ := hI
    dsimp only at ih_3 hv39_0 hv39_1
    have hv39_0 : i ≤ d := hv39_0
    have hv39_1 : ∀ j, j < 4 → t8 j = zpg f rt fr n d w i (p * 4 + j) := hv39_1
    have hP : va_P D vwCl [(M, .inr (9, [.int th, .ref mtx, .int (nI len), .int (nI pl), .int rt, .int fr, .int pr, .ref mod_, .int (nI n), .ref mne, .ref mro, .int (nI m), .int rrt, .int rfr, .int rpr, .ref mrod, .int (nI rn9), .ref mrne, .ref mrro, .int (nI rm9), .ref mrp, .ref mpg, .ref mbk, .int (nI ac), .ref mke, .ref mik, .int (nI cr), .ref mrw, .ref mrd, .long sd, .ref mtr, .ref mwo, .ref mnx, .int jr])), (mpg, .inl (cI, 36, .inl g)), (mtr, .inl (cI, 36, .inl t8))] H := hP
    have hD : va_D A [(M, .inr (9, [.int th, .ref mtx, .int (nI len), .int (nI pl), .int rt, .int fr, .int pr, .ref mod_, .int (nI n), .ref mne, .ref mro, .int (nI m), .int rrt, .int rfr, .int rpr, .ref mrod, .int (nI rn9), .ref mrne, .ref mrro, .int (nI rm9), .ref mrp, .ref mpg, .ref mbk, .int (nI ac), .ref mke, .ref mik, .int (nI cr), .ref mrw, .ref mrd, .long sd, .ref mtr, .ref mwo, .ref mnx, .int jr])), (mpg, .inl (cI, 36, .inl g)), (mtr, .inl (cI, 36, .inl t8))] := hD
    have hl : lv_has ls 5 [(4, .int (nI (d - i) - 1)), (0, .ref M), (1, .int (nI p)), (2, .int (nI d)), (3, .int (nI w))] := hl
    refine lv_iload hx hb dX9_layBehind_39 (lv_at hl 0 rfl) ?_
    refine lv_if_lt (tgt := 67) hx hb dX9_layBehind_41 (by decide) (fun c_5 => ?_) (fun c_5 => ?_)
    · have c_5 : (nI (d - i) - 1) < 0 := c_5
      have hdi := zdown_t (by omega) c_5
      have hE_ : d = i := by omega
      subst hE_
      exact z_vret Z (t8) (by exact hv39_1) hP hS dX9_layBehind_67
    · have c_5 : ¬ ((nI (d - i) - 1) < 0) := c_5
      have hdf := zdown_f c_5
      have hE : (nI (d - i) - 1 : Int32) = (nI (d - i - 1)) := hdf.2
      have hl : lv_has ls 5 [(4, .int (nI (d - i - 1))), (0, .ref M), (1, .int (nI p)), (2, .int (nI d)), (3, .int (nI w))] := Eq.subst (motive := fun zz_ => lv_has ls 5 [(4, .int zz_), (0, .ref M), (1, .int (nI p)), (2, .int (nI d)), (3, .int (nI w))]) hE hl
      have hk4 := zki_lt w d i
      refine lv_aload_n hx hb dX9_layBehind_44 rfl (lv_at hl 1 rfl) ?_
      refine z_get (ci := 9) (v := .ref mtr) Z zin9 hP 0 rfl rfl 30 (by decide) zm707 rfl rfl dX9_layBehind_45 ?_
      refine lv_iconst (v := nI 0) hx hb dX9_layBehind_48 (by decide) ?_
      refine lv_iload_n hx hb dX9_layBehind_49 rfl (lv_at hl 4 rfl) ?_
      refine lv_iload hx hb dX9_layBehind_50 (lv_at hl 0 rfl) ?_
      refine z_callSi (As := [.int (nI (d - i - 1))]) (rest := [.int (nI w), .int (nI 0), .ref mtr]) Z hP hD hS hl.1 (zc_X9_four l D cI cZ (d - i - 1) (by omega)) zm864 zm865 zm39 zm866 zd_X9_four ⟨Nat.le_of_ble_eq_true rfl, Nat.le_of_ble_eq_true rfl⟩ ⟨Nat.zero_le _, Nat.zero_le _⟩ [] rfl (by decide) (fun _ => rfl) rfl (Nat.le_of_ble_eq_true rfl) rfl dX9_layBehind_52 (fun r_6 u H locs h_7 hP hD hS => ?_)
      have hP : va_P D vwCl [(M, .inr (9, [.int th, .ref mtx, .int (nI len), .int (nI pl), .int rt, .int fr, .int pr, .ref mod_, .int (nI n), .ref mne, .ref mro, .int (nI m), .int rrt, .int rfr, .int rpr, .ref mrod, .int (nI rn9), .ref mrne, .ref mrro, .int (nI rm9), .ref mrp, .ref mpg, .ref mbk, .int (nI ac), .ref mke, .ref mik, .int (nI cr), .ref mrw, .ref mrd, .long sd, .ref mtr, .ref mwo, .ref mnx, .int jr])), (mpg, .inl (cI, 36, .inl g)), (mtr, .inl (cI, 36, .inl t8))] H := hP
      have hD : va_D A [(M, .inr (9, [.int th, .ref mtx, .int (nI len), .int (nI pl), .int rt, .int fr, .int pr, .ref mod_, .int (nI n), .ref mne, .ref mro, .int (nI m), .int rrt, .int rfr, .int rpr, .ref mrod, .int (nI rn9), .ref mrne, .ref mrro, .int (nI rm9), .ref mrp, .ref mpg, .ref mbk, .int (nI ac), .ref mke, .ref mik, .int (nI cr), .ref mrw, .ref mrd, .long sd, .ref mtr, .ref mwo, .ref mnx, .int jr])), (mpg, .inl (cI, 36, .inl g)), (mtr, .inl (cI, 36, .inl t8))] := hD
      have h_7 : r_6 = nI (4 ^ (d - i - 1)) := h_7
      subst h_7
      refine lv_idiv hx hb dX9_layBehind_55 (by exact fun z => absurd (zeq (j := 0) (Nat.lt_of_le_of_lt (Nat.pow_le_pow_right (show 0 < 4 by decide) (show d - i - 1 ≤ 4 by omega)) (by decide)) (by decide) z) (Nat.ne_of_gt (Nat.pow_pos (by decide)))) ?_
      refine z_top (y := nI (w / (4 ^ (d - i - 1)))) (pk_div (by first | omega | exact Nat.pow_pos (by decide) | exact Nat.lt_of_le_of_lt (Nat.pow_le_pow_right (show 0 < 4 by decide) (show d - i - 1 ≤ 4 by omega)) (by decide) | exact Nat.lt_of_le_of_lt (Nat.div_le_self _ _) (by omega)) (by first | omega | exact Nat.pow_pos (by decide) | exact Nat.lt_of_le_of_lt (Nat.pow_le_pow_right (show 0 < 4 by decide) (show d - i - 1 ≤ 4 by omega)) (by decide) | exact Nat.lt_of_le_of_lt (Nat.div_le_self _ _) (by omega)) (by first | omega | exact Nat.pow_pos (by decide) | exact Nat.lt_of_le_of_lt (Nat.pow_le_pow_right (show 0 < 4 by decide) (show d - i - 1 ≤ 4 by omega)) (by decide) | exact Nat.lt_of_le_of_lt (Nat.div_le_self _ _) (by omega))) ?_
      refine lv_iconst (v := nI 4) hx hb dX9_layBehind_56 (by decide) ?_
      refine lv_irem hx hb dX9_layBehind_57 (by decide) ?_
      refine z_top (y := nI ((w / (4 ^ (d - i - 1))) % 4)) (pk_rem (by first | omega | exact Nat.pow_pos (by decide) | exact Nat.lt_of_le_of_lt (Nat.pow_le_pow_right (show 0 < 4 by decide) (show d - i - 1 ≤ 4 by omega)) (by decide) | exact Nat.lt_of_le_of_lt (Nat.div_le_self _ _) (by omega)) (by decide) (by decide)) ?_
      refine z_top (y := nI (zki w d i)) (by show nI (w / 4 ^ (d - i - 1) % 4) = nI (w / 4 ^ (d - 1 - i) % 4); rw [show d - i - 1 = d - 1 - i by omega]) ?_
      refine z_callSv (As := [.ref mtr, .int (nI 0), .int (nI (zki w d i))]) (rest := []) Z hP hD hS hl.1 (zc_X9_learn l D cI cZ mtr t8 0 (zki w d i) (by omega) (by omega)) zm829 zm830 zm39 zm831 zd_X9_learn ⟨Nat.le_of_ble_eq_true rfl, Nat.le_of_ble_eq_true rfl⟩ ⟨Nat.zero_le _, Nat.zero_le _⟩ [2] rfl (by decide) (fun _ => rfl) rfl (Nat.le_of_ble_eq_true rfl) rfl dX9_layBehind_58 (fun u H locs h_9 hP hD hS => ?_)
      have hP : va_P D vwCl [(M, .inr (9, [.int th, .ref mtx, .int (nI len), .int (nI pl), .int rt, .int fr, .int pr, .ref mod_, .int (nI n), .ref mne, .ref mro, .int (nI m), .int rrt, .int rfr, .int rpr, .ref mrod, .int (nI rn9), .ref mrne, .ref mrro, .int (nI rm9), .ref mrp, .ref mpg, .ref mbk, .int (nI ac), .ref mke, .ref mik, .int (nI cr), .ref mrw, .ref mrd, .long sd, .ref mtr, .ref mwo, .ref mnx, .int jr])), (mpg, .inl (cI, 36, .inl g)), (mtr, .inl (cI, 36, .inl (zml t8 0 (zki w d i))))] H := hP
      have hD : va_D A [(M, .inr (9, [.int th, .ref mtx, .int (nI len), .int (nI pl), .int rt, .int fr, .int pr, .ref mod_, .int (nI n), .ref mne, .ref mro, .int (nI m), .int rrt, .int rfr, .int rpr, .ref mrod, .int (nI rn9), .ref mrne, .ref mrro, .int (nI rm9), .ref mrp, .ref mpg, .ref mbk, .int (nI ac), .ref mke, .ref mik, .int (nI cr), .ref mrw, .ref mrd, .long sd, .ref mtr, .ref mwo, .ref mnx, .int jr])), (mpg, .inl (cI, 36, .inl g)), (mtr, .inl (cI, 36, .inl (zml t8 0 (zki w d i))))] := hD
      have hE : (nI (d - i - 1) : Int32) = (nI (d - i) - 1) := hdf.2.symm
      have hl : lv_has ls 5 [(4, .int (nI (d - i) - 1)), (0, .ref M), (1, .int (nI p)), (2, .int (nI d)), (3, .int (nI w))] := Eq.subst (motive := fun zz_ => lv_has ls 5 [(4, .int zz_), (0, .ref M), (1, .int (nI p)), (2, .int (nI d)), (3, .int (nI w))]) hE hl
      refine lv_iinc (v := (nI (d - i) - 1) + -1) (lv' := [(4, .int ((nI (d - i) - 1) + -1)), (0, .ref M), (1, .int (nI p)), (2, .int (nI d)), (3, .int (nI w))]) hx hb dX9_layBehind_61 hl (k := 0) rfl rfl (by decide) rfl (fun ls hl => ?_)
      refine lv_goto (tgt := 39) hx hb dX9_layBehind_64 (by decide) ?_
      have hl : lv_has ls 5 [(4, .int ((nI (d - i) - 1) + -1)), (0, .ref M), (1, .int (nI p)), (2, .int (nI d)), (3, .int (nI w))] := lv_sub hl [0, 1, 2, 3, 4] rfl
      have e_10 : (nI (d - i) - 1) + -1 = nI (d - (i + 1)) - 1 := by first | (rw [zdn_s (show i < d by omega)]; done) | rfl
      have hl : lv_has ls 5 [(4, .int (nI (d - (i + 1)) - 1)), (0, .ref M), (1, .int (nI p)), (2, .int (nI d)), (3, .int (nI w))] := Eq.subst (motive := fun zz_ => lv_has ls 5 [(4, .int zz_), (0, .ref M), (1, .int (nI p)), (2, .int (nI d)), (3, .int (nI w))]) e_10 hl
      exact ih_3 (i + 1, zml t8 0 (zki w d i)) _ _ _ (by omega) ⟨hP, hD, hS, hl, (by first | omega | exact zpg_row hn hp hpv hv39_1), (by first | omega | exact zpg_row hn hp hpv hv39_1)⟩
  · have c_2 := znle (i := 4) (j := j) (by decide) (by first | omega | exact Nat.pow_pos (by decide) | exact Nat.lt_of_le_of_lt (Nat.pow_le_pow_right (show 0 < 4 by decide) (show d - i - 1 ≤ 4 by omega)) (by decide) | exact Nat.lt_of_le_of_lt (Nat.div_le_self _ _) (by omega)) c_2
    refine lv_aload_n hx hb dX9_layBehind_9 rfl (lv_at hl 1 rfl) ?_
    refine z_get (ci := 9) (v := .ref mtr) Z zin9 hP 0 rfl rfl 30 (by decide) zm707 rfl rfl dX9_layBehind_10 ?_
    refine lv_iload hx hb dX9_layBehind_13 (lv_at hl 0 rfl) ?_
    refine lv_aload_n hx hb dX9_layBehind_15 rfl (lv_at hl 1 rfl) ?_
    refine z_get (ci := 9) (v := .ref mpg) Z zin9 hP 0 rfl rfl 21 (by decide) zm698 rfl rfl dX9_layBehind_16 ?_
    refine lv_bipush (v := nI 7) hx hb dX9_layBehind_19 (by decide) ?_
    refine lv_iload_n hx hb dX9_layBehind_21 rfl (lv_at hl 2 rfl) ?_
    refine lv_imul hx hb dX9_layBehind_22 ?_
    refine z_top (y := nI (7 * p)) (z_mul _ _) ?_
    refine lv_iload hx hb dX9_layBehind_23 (lv_at hl 0 rfl) ?_
    refine lv_iadd hx hb dX9_layBehind_25 ?_
    refine z_top (y := nI (7 * p + j)) (z_add _ _) ?_
    refine z_iald (n := 36) (f := g) (j := 7 * p + j) Z hP 1 rfl (by first | omega | exact Nat.pow_pos (by decide) | exact Nat.lt_of_le_of_lt (Nat.pow_le_pow_right (show 0 < 4 by decide) (show d - i - 1 ≤ 4 by omega)) (by decide) | exact Nat.lt_of_le_of_lt (Nat.div_le_self _ _) (by omega)) (by decide) dX9_layBehind_26 ?_
    refine z_top (y := f (p * 4 + j)) ((hpg.1 p hp).1 j (by omega)) ?_
    refine z_iast (n := 36) (f := t9) (j := j) (x := f (p * 4 + j)) Z hP hD hS 2 rfl (by first | omega | exact Nat.pow_pos (by decide) | exact Nat.lt_of_le_of_lt (Nat.pow_le_pow_right (show 0 < 4 by decide) (show d - i - 1 ≤ 4 by omega)) (by decide) | exact Nat.lt_of_le_of_lt (Nat.div_le_self _ _) (by omega)) (by decide) dX9_layBehind_27 (fun H locs hP hD hS => ?_)
    have hP : va_P D vwCl [(M, .inr (9, [.int th, .ref mtx, .int (nI len), .int (nI pl), .int rt, .int fr, .int pr, .ref mod_, .int (nI n), .ref mne, .ref mro, .int (nI m), .int rrt, .int rfr, .int rpr, .ref mrod, .int (nI rn9), .ref mrne, .ref mrro, .int (nI rm9), .ref mrp, .ref mpg, .ref mbk, .int (nI ac), .ref mke, .ref mik, .int (nI cr), .ref mrw, .ref mrd, .long sd, .ref mtr, .ref mwo, .ref mnx, .int jr])), (mpg, .inl (cI, 36, .inl g)), (mtr, .inl (cI, 36, .inl (upd t9 j (f (p * 4 + j)))))] H := hP
    have hD : va_D A [(M, .inr (9, [.int th, .ref mtx, .int (nI len), .int (nI pl), .int rt, .int fr, .int pr, .ref mod_, .int (nI n), .ref mne, .ref mro, .int (nI m), .int rrt, .int rfr, .int rpr, .ref mrod, .int (nI rn9), .ref mrne, .ref mrro, .int (nI rm9), .ref mrp, .ref mpg, .ref mbk, .int (nI ac), .ref mke, .ref mik, .int (nI cr), .ref mrw, .ref mrd, .long sd, .ref mtr, .ref mwo, .ref mnx, .int jr])), (mpg, .inl (cI, 36, .inl g)), (mtr, .inl (cI, 36, .inl (upd t9 j (f (p * 4 + j)))))] := hD
    refine lv_iinc (v := nI (j + 1)) (lv' := [(4, .int (nI (j + 1))), (0, .ref M), (1, .int (nI p)), (2, .int (nI d)), (3, .int (nI w))]) hx hb dX9_layBehind_28 hl (k := 0) rfl (z_inc _ 1) (by decide) rfl (fun ls hl => ?_)
    refine lv_goto (tgt := 3) hx hb dX9_layBehind_31 (by decide) ?_
    have hl : lv_has ls 5 [(4, .int (nI (j + 1))), (0, .ref M), (1, .int (nI p)), (2, .int (nI d)), (3, .int (nI w))] := lv_sub hl [0, 1, 2, 3, 4] rfl
    exact ih_1 (j + 1, upd t9 j (f (p * 4 + j))) _ _ _ (by omega) ⟨hP, hD, hS, hl, (by first | omega | exact zcpr_s hv3_1 rfl), (by first | omega | exact zcpr_s hv3_1 rfl)⟩

theorem dX9_dayOf_0 : decode cX9_dayOf 0 = .ok (.iload_n 2, 1) := by decide +kernel
theorem dX9_dayOf_1 : decode cX9_dayOf 1 = .ok (.ifCond .ne 17, 3) := by decide +kernel
theorem dX9_dayOf_4 : decode cX9_dayOf 4 = .ok (.aload_n 0, 1) := by decide +kernel
theorem dX9_dayOf_5 : decode cX9_dayOf 5 = .ok (.getfield 34, 3) := by decide +kernel
theorem dX9_dayOf_8 : decode cX9_dayOf 8 = .ok (.bipush 7, 2) := by decide +kernel
theorem dX9_dayOf_10 : decode cX9_dayOf 10 = .ok (.iload_n 1, 1) := by decide +kernel
theorem dX9_dayOf_11 : decode cX9_dayOf 11 = .ok (.imul, 1) := by decide +kernel
theorem dX9_dayOf_12 : decode cX9_dayOf 12 = .ok (.iconst 5, 1) := by decide +kernel
theorem dX9_dayOf_13 : decode cX9_dayOf 13 = .ok (.iadd, 1) := by decide +kernel
theorem dX9_dayOf_14 : decode cX9_dayOf 14 = .ok (.iaload, 1) := by decide +kernel
theorem dX9_dayOf_15 : decode cX9_dayOf 15 = .ok (.goto 5, 3) := by decide +kernel
theorem dX9_dayOf_18 : decode cX9_dayOf 18 = .ok (.bipush (-9), 2) := by decide +kernel
theorem dX9_dayOf_20 : decode cX9_dayOf 20 = .ok (.istore 5, 2) := by decide +kernel
theorem dX9_dayOf_22 : decode cX9_dayOf 22 = .ok (.iload_n 2, 1) := by decide +kernel
theorem dX9_dayOf_23 : decode cX9_dayOf 23 = .ok (.ifCond .ne 18, 3) := by decide +kernel
theorem dX9_dayOf_26 : decode cX9_dayOf 26 = .ok (.aload_n 0, 1) := by decide +kernel
theorem dX9_dayOf_27 : decode cX9_dayOf 27 = .ok (.getfield 34, 3) := by decide +kernel
theorem dX9_dayOf_30 : decode cX9_dayOf 30 = .ok (.bipush 7, 2) := by decide +kernel
theorem dX9_dayOf_32 : decode cX9_dayOf 32 = .ok (.iload_n 1, 1) := by decide +kernel
theorem dX9_dayOf_33 : decode cX9_dayOf 33 = .ok (.imul, 1) := by decide +kernel
theorem dX9_dayOf_34 : decode cX9_dayOf 34 = .ok (.bipush 6, 2) := by decide +kernel
theorem dX9_dayOf_36 : decode cX9_dayOf 36 = .ok (.iadd, 1) := by decide +kernel
theorem dX9_dayOf_37 : decode cX9_dayOf 37 = .ok (.iaload, 1) := by decide +kernel
theorem dX9_dayOf_38 : decode cX9_dayOf 38 = .ok (.goto 5, 3) := by decide +kernel
theorem dX9_dayOf_41 : decode cX9_dayOf 41 = .ok (.bipush (-9), 2) := by decide +kernel
theorem dX9_dayOf_43 : decode cX9_dayOf 43 = .ok (.istore 6, 2) := by decide +kernel
theorem dX9_dayOf_45 : decode cX9_dayOf 45 = .ok (.bipush (-9), 2) := by decide +kernel
theorem dX9_dayOf_47 : decode cX9_dayOf 47 = .ok (.istore 7, 2) := by decide +kernel
theorem dX9_dayOf_49 : decode cX9_dayOf 49 = .ok (.bipush (-9), 2) := by decide +kernel
theorem dX9_dayOf_51 : decode cX9_dayOf 51 = .ok (.istore 8, 2) := by decide +kernel
theorem dX9_dayOf_53 : decode cX9_dayOf 53 = .ok (.iload 8, 2) := by decide +kernel
theorem dX9_dayOf_55 : decode cX9_dayOf 55 = .ok (.iconst 4, 1) := by decide +kernel
theorem dX9_dayOf_56 : decode cX9_dayOf 56 = .ok (.if_icmp .ge 180, 3) := by decide +kernel
theorem dX9_dayOf_59 : decode cX9_dayOf 59 = .ok (.iload 8, 2) := by decide +kernel
theorem dX9_dayOf_61 : decode cX9_dayOf 61 = .ok (.bipush (-9), 2) := by decide +kernel
theorem dX9_dayOf_63 : decode cX9_dayOf 63 = .ok (.if_icmp .eq 10, 3) := by decide +kernel
theorem dX9_dayOf_66 : decode cX9_dayOf 66 = .ok (.iload 5, 2) := by decide +kernel
theorem dX9_dayOf_68 : decode cX9_dayOf 68 = .ok (.bipush (-9), 2) := by decide +kernel
theorem dX9_dayOf_70 : decode cX9_dayOf 70 = .ok (.if_icmp .ne 146, 3) := by decide +kernel
theorem dX9_dayOf_73 : decode cX9_dayOf 73 = .ok (.iload 8, 2) := by decide +kernel
theorem dX9_dayOf_75 : decode cX9_dayOf 75 = .ok (.bipush (-9), 2) := by decide +kernel
theorem dX9_dayOf_77 : decode cX9_dayOf 77 = .ok (.if_icmp .ne 7, 3) := by decide +kernel
theorem dX9_dayOf_80 : decode cX9_dayOf 80 = .ok (.iconst 0, 1) := by decide +kernel
theorem dX9_dayOf_81 : decode cX9_dayOf 81 = .ok (.goto 12, 3) := by decide +kernel
theorem dX9_dayOf_84 : decode cX9_dayOf 84 = .ok (.aload_n 0, 1) := by decide +kernel
theorem dX9_dayOf_85 : decode cX9_dayOf 85 = .ok (.getfield 131, 3) := by decide +kernel
theorem dX9_dayOf_88 : decode cX9_dayOf 88 = .ok (.iload_n 3, 1) := by decide +kernel
theorem dX9_dayOf_89 : decode cX9_dayOf 89 = .ok (.invokestatic 190, 3) := by decide +kernel
theorem dX9_dayOf_92 : decode cX9_dayOf 92 = .ok (.imul, 1) := by decide +kernel
theorem dX9_dayOf_93 : decode cX9_dayOf 93 = .ok (.istore 9, 2) := by decide +kernel
theorem dX9_dayOf_95 : decode cX9_dayOf 95 = .ok (.iconst 0, 1) := by decide +kernel
theorem dX9_dayOf_96 : decode cX9_dayOf 96 = .ok (.istore 10, 2) := by decide +kernel
theorem dX9_dayOf_98 : decode cX9_dayOf 98 = .ok (.iload 10, 2) := by decide +kernel
theorem dX9_dayOf_100 : decode cX9_dayOf 100 = .ok (.iconst 4, 1) := by decide +kernel
theorem dX9_dayOf_101 : decode cX9_dayOf 101 = .ok (.if_icmp .ge 92, 3) := by decide +kernel
theorem dX9_dayOf_104 : decode cX9_dayOf 104 = .ok (.aload_n 0, 1) := by decide +kernel
theorem dX9_dayOf_105 : decode cX9_dayOf 105 = .ok (.getfield 125, 3) := by decide +kernel
theorem dX9_dayOf_108 : decode cX9_dayOf 108 = .ok (.aload_n 0, 1) := by decide +kernel
theorem dX9_dayOf_109 : decode cX9_dayOf 109 = .ok (.getfield 53, 3) := by decide +kernel
theorem dX9_dayOf_112 : decode cX9_dayOf 112 = .ok (.iload 10, 2) := by decide +kernel
theorem dX9_dayOf_114 : decode cX9_dayOf 114 = .ok (.iaload, 1) := by decide +kernel
theorem dX9_dayOf_115 : decode cX9_dayOf 115 = .ok (.iload 10, 2) := by decide +kernel
theorem dX9_dayOf_117 : decode cX9_dayOf 117 = .ok (.iload 8, 2) := by decide +kernel
theorem dX9_dayOf_119 : decode cX9_dayOf 119 = .ok (.bipush (-9), 2) := by decide +kernel
theorem dX9_dayOf_121 : decode cX9_dayOf 121 = .ok (.if_icmp .ne 8, 3) := by decide +kernel
theorem dX9_dayOf_124 : decode cX9_dayOf 124 = .ok (.iload 5, 2) := by decide +kernel
theorem dX9_dayOf_126 : decode cX9_dayOf 126 = .ok (.goto 5, 3) := by decide +kernel
theorem dX9_dayOf_129 : decode cX9_dayOf 129 = .ok (.iload 8, 2) := by decide +kernel
theorem dX9_dayOf_131 : decode cX9_dayOf 131 = .ok (.iload 6, 2) := by decide +kernel
theorem dX9_dayOf_133 : decode cX9_dayOf 133 = .ok (.aload_n 0, 1) := by decide +kernel
theorem dX9_dayOf_134 : decode cX9_dayOf 134 = .ok (.getfield 128, 3) := by decide +kernel
theorem dX9_dayOf_137 : decode cX9_dayOf 137 = .ok (.invokestatic 152, 3) := by decide +kernel
theorem dX9_dayOf_140 : decode cX9_dayOf 140 = .ok (.imul, 1) := by decide +kernel
theorem dX9_dayOf_141 : decode cX9_dayOf 141 = .ok (.istore 11, 2) := by decide +kernel
theorem dX9_dayOf_143 : decode cX9_dayOf 143 = .ok (.iload 9, 2) := by decide +kernel
theorem dX9_dayOf_145 : decode cX9_dayOf 145 = .ok (.aload_n 0, 1) := by decide +kernel
theorem dX9_dayOf_146 : decode cX9_dayOf 146 = .ok (.getfield 13, 3) := by decide +kernel
theorem dX9_dayOf_149 : decode cX9_dayOf 149 = .ok (.iload 10, 2) := by decide +kernel
theorem dX9_dayOf_151 : decode cX9_dayOf 151 = .ok (.iaload, 1) := by decide +kernel
theorem dX9_dayOf_152 : decode cX9_dayOf 152 = .ok (.iload 11, 2) := by decide +kernel
theorem dX9_dayOf_154 : decode cX9_dayOf 154 = .ok (.iload_n 3, 1) := by decide +kernel
theorem dX9_dayOf_155 : decode cX9_dayOf 155 = .ok (.iconst 1, 1) := by decide +kernel
theorem dX9_dayOf_156 : decode cX9_dayOf 156 = .ok (.isub, 1) := by decide +kernel
theorem dX9_dayOf_157 : decode cX9_dayOf 157 = .ok (.invokestatic 190, 3) := by decide +kernel
theorem dX9_dayOf_160 : decode cX9_dayOf 160 = .ok (.imul, 1) := by decide +kernel
theorem dX9_dayOf_161 : decode cX9_dayOf 161 = .ok (.iload_n 3, 1) := by decide +kernel
theorem dX9_dayOf_162 : decode cX9_dayOf 162 = .ok (.iconst 1, 1) := by decide +kernel
theorem dX9_dayOf_163 : decode cX9_dayOf 163 = .ok (.if_icmp .ne 7, 3) := by decide +kernel
theorem dX9_dayOf_166 : decode cX9_dayOf 166 = .ok (.iconst 0, 1) := by decide +kernel
theorem dX9_dayOf_167 : decode cX9_dayOf 167 = .ok (.goto 15, 3) := by decide +kernel
theorem dX9_dayOf_170 : decode cX9_dayOf 170 = .ok (.aload_n 0, 1) := by decide +kernel
theorem dX9_dayOf_171 : decode cX9_dayOf 171 = .ok (.getfield 59, 3) := by decide +kernel
theorem dX9_dayOf_174 : decode cX9_dayOf 174 = .ok (.iconst 4, 1) := by decide +kernel
theorem dX9_dayOf_175 : decode cX9_dayOf 175 = .ok (.iload 4, 2) := by decide +kernel
theorem dX9_dayOf_177 : decode cX9_dayOf 177 = .ok (.imul, 1) := by decide +kernel
theorem dX9_dayOf_178 : decode cX9_dayOf 178 = .ok (.iload 10, 2) := by decide +kernel
theorem dX9_dayOf_180 : decode cX9_dayOf 180 = .ok (.iadd, 1) := by decide +kernel
theorem dX9_dayOf_181 : decode cX9_dayOf 181 = .ok (.iaload, 1) := by decide +kernel
theorem dX9_dayOf_182 : decode cX9_dayOf 182 = .ok (.iadd, 1) := by decide +kernel
theorem dX9_dayOf_183 : decode cX9_dayOf 183 = .ok (.imul, 1) := by decide +kernel
theorem dX9_dayOf_184 : decode cX9_dayOf 184 = .ok (.iadd, 1) := by decide +kernel
theorem dX9_dayOf_185 : decode cX9_dayOf 185 = .ok (.istore 9, 2) := by decide +kernel
theorem dX9_dayOf_187 : decode cX9_dayOf 187 = .ok (.iinc 10 1, 3) := by decide +kernel
theorem dX9_dayOf_190 : decode cX9_dayOf 190 = .ok (.goto (-92), 3) := by decide +kernel
theorem dX9_dayOf_193 : decode cX9_dayOf 193 = .ok (.iload 7, 2) := by decide +kernel
theorem dX9_dayOf_195 : decode cX9_dayOf 195 = .ok (.bipush (-9), 2) := by decide +kernel
theorem dX9_dayOf_197 : decode cX9_dayOf 197 = .ok (.if_icmp .eq 10, 3) := by decide +kernel
theorem dX9_dayOf_200 : decode cX9_dayOf 200 = .ok (.iload 9, 2) := by decide +kernel
theorem dX9_dayOf_202 : decode cX9_dayOf 202 = .ok (.iload 7, 2) := by decide +kernel
theorem dX9_dayOf_204 : decode cX9_dayOf 204 = .ok (.if_icmp .ge 8, 3) := by decide +kernel
theorem dX9_dayOf_207 : decode cX9_dayOf 207 = .ok (.iload 9, 2) := by decide +kernel
theorem dX9_dayOf_209 : decode cX9_dayOf 209 = .ok (.goto 5, 3) := by decide +kernel
theorem dX9_dayOf_212 : decode cX9_dayOf 212 = .ok (.iload 7, 2) := by decide +kernel
theorem dX9_dayOf_214 : decode cX9_dayOf 214 = .ok (.istore 7, 2) := by decide +kernel
theorem dX9_dayOf_216 : decode cX9_dayOf 216 = .ok (.iload 8, 2) := by decide +kernel
theorem dX9_dayOf_218 : decode cX9_dayOf 218 = .ok (.bipush (-9), 2) := by decide +kernel
theorem dX9_dayOf_220 : decode cX9_dayOf 220 = .ok (.if_icmp .ne 7, 3) := by decide +kernel
theorem dX9_dayOf_223 : decode cX9_dayOf 223 = .ok (.iconst 0, 1) := by decide +kernel
theorem dX9_dayOf_224 : decode cX9_dayOf 224 = .ok (.goto 7, 3) := by decide +kernel
theorem dX9_dayOf_227 : decode cX9_dayOf 227 = .ok (.iload 8, 2) := by decide +kernel
theorem dX9_dayOf_229 : decode cX9_dayOf 229 = .ok (.iconst 1, 1) := by decide +kernel
theorem dX9_dayOf_230 : decode cX9_dayOf 230 = .ok (.iadd, 1) := by decide +kernel
theorem dX9_dayOf_231 : decode cX9_dayOf 231 = .ok (.istore 8, 2) := by decide +kernel
theorem dX9_dayOf_233 : decode cX9_dayOf 233 = .ok (.goto (-180), 3) := by decide +kernel
theorem dX9_dayOf_236 : decode cX9_dayOf 236 = .ok (.iload 7, 2) := by decide +kernel
theorem dX9_dayOf_238 : decode cX9_dayOf 238 = .ok (.ireturn, 1) := by decide +kernel
theorem zd_X9_dayOf : yX9_dayOf.cls ≠ "java/lang/invoke/MethodHandle" ∧ yX9_dayOf.cls ≠ "java/lang/invoke/VarHandle" ∧ (parseMethodDescriptor yX9_dayOf.desc).map (fun d => d.parameters.length) = some 4 := by decide +kernel
set_option maxHeartbeats 4000000 in
set_option maxRecDepth 100000 in
theorem zc_X9_dayOf (l : Launch) (D : va_G) (cI cZ : ClassId) (M : Nat) (th : Int32) (mtx : Nat) (len : Nat) (pl : Nat) (mod_ : Nat) (n : Nat) (mne : Nat) (mro : Nat) (m : Nat) (rrt : Int32) (rfr : Int32) (rpr : Int32) (mrod : Nat) (rn9 : Nat) (mrne : Nat) (mrro : Nat) (rm9 : Nat) (mrp : Nat) (mpg : Nat) (mbk : Nat) (ac : Nat) (mke : Nat) (mik : Nat) (cr : Nat) (mrw : Nat) (mrd : Nat) (sd : Int64) (mtr : Nat) (mwo : Nat) (mnx : Nat) (jr : Int32) (q5 : Nat) (r5 : Nat) (s5 : Nat) (od : Nat → Int32) (g : Nat → Int32) (t : Nat → Int32) (nx : Nat → Int32) (p : Nat) (dy : Nat) (e : Nat) (w : Nat) (Ep : Nat → Int32) (cn : Nat) (hp5 : p < 5) (he : e ≤ 2) (hdy : dy < 1000) (hw : w < 16) (hq : q5 ≤ 9) (hr : r5 ≤ 9) (hs : s5 ≤ 9) (hov : zov od) (hv1 : zpv1 p Ep) (ht : ∀ k, k < 4 → t k = Ep (p * 4 + k)) (hdc : dy = 0 → g (7 * p + 5) = Ep (25 + p)) (hhe : dy = 0 → g (7 * p + 6) = Ep (30 + p)) (hdc2 : ¬ dy = 0 → Ep (25 + p) = -9) (hhe2 : ¬ dy = 0 → Ep (30 + p) = -9) (hcn : zCs od (fun k => if e + 1 = 1 then 0 else nx (4 * w + k)) 4 = nI cn) (hcn2 : cn ≤ 1000000) : zI l yX9_dayOf cX9_dayOf 12 .int 1 25 D cI cZ [.ref M, .int (nI p), .int (nI dy), .int (nI (e + 1)), .int (nI w)] [(M, .inr (9, [.int th, .ref mtx, .int (nI len), .int (nI pl), .int (nI q5), .int (nI r5), .int (nI s5), .ref mod_, .int (nI n), .ref mne, .ref mro, .int (nI m), .int rrt, .int rfr, .int rpr, .ref mrod, .int (nI rn9), .ref mrne, .ref mrro, .int (nI rm9), .ref mrp, .ref mpg, .ref mbk, .int (nI ac), .ref mke, .ref mik, .int (nI cr), .ref mrw, .ref mrd, .long sd, .ref mtr, .ref mwo, .ref mnx, .int jr])), (mod_, .inl (cI, 4, .inl od)), (mpg, .inl (cI, 36, .inl g)), (mtr, .inl (cI, 36, .inl t)), (mnx, .inl (cI, 64, .inl nx))] (fun (r : Int32) (u : Unit) => r = nI (10 ^ e) * (zchF Ep od (nI q5) (nI r5) (nI s5) p).2 + nI cn) (fun (u : Unit) => [(M, .inr (9, [.int th, .ref mtx, .int (nI len), .int (nI pl), .int (nI q5), .int (nI r5), .int (nI s5), .ref mod_, .int (nI n), .ref mne, .ref mro, .int (nI m), .int rrt, .int rfr, .int rpr, .ref mrod, .int (nI rn9), .ref mrne, .ref mrro, .int (nI rm9), .ref mrp, .ref mpg, .ref mbk, .int (nI ac), .ref mke, .ref mik, .int (nI cr), .ref mrw, .ref mrd, .long sd, .ref mtr, .ref mwo, .ref mnx, .int jr])), (mod_, .inl (cI, 4, .inl od)), (mpg, .inl (cI, 36, .inl g)), (mtr, .inl (cI, 36, .inl t)), (mnx, .inl (cI, 64, .inl nx))]) := by
  refine zI_of (by decide) (Nat.le_of_ble_eq_true rfl) ?_
  intro pP eE sS mM aA bB mT cC A ls Z hP hD hS hl
  have hx := Z.1
  have hb := Z.2.1
  have hown := Z.2.2.2.2.2.1
  have hts := Z.2.2.2.2.1
  have Z : zAt pP sS mM aA mT cC D cI cZ A "SurpriseTaxModel" cX9_dayOf 12 (some .int) := Z
  have hl : lv_has ls 12 [(0, .ref M), (1, .int (nI p)), (2, .int (nI dy)), (3, .int (nI (e + 1))), (4, .int (nI w))] := hl
  obtain ⟨H, hH⟩ : ∃ H, H = sS.heap := ⟨_, rfl⟩
  have hP : va_P D vwCl [(M, .inr (9, [.int th, .ref mtx, .int (nI len), .int (nI pl), .int (nI q5), .int (nI r5), .int (nI s5), .ref mod_, .int (nI n), .ref mne, .ref mro, .int (nI m), .int rrt, .int rfr, .int rpr, .ref mrod, .int (nI rn9), .ref mrne, .ref mrro, .int (nI rm9), .ref mrp, .ref mpg, .ref mbk, .int (nI ac), .ref mke, .ref mik, .int (nI cr), .ref mrw, .ref mrd, .long sd, .ref mtr, .ref mwo, .ref mnx, .int jr])), (mod_, .inl (cI, 4, .inl od)), (mpg, .inl (cI, 36, .inl g)), (mtr, .inl (cI, 36, .inl t)), (mnx, .inl (cI, 64, .inl nx))] H := by rw [hH]; exact hP
  have hS : va_S A sS.heap H [] := by rw [hH]; exact hS
  rw [← hH]
  clear hH
  obtain ⟨locs, hlo⟩ : ∃ q : List Loc, q = [] := ⟨_, rfl⟩
  rw [← hlo] at hS ⊢
  clear hlo
  have ha : 10 ^ e ≤ 100 := (Nat.pow_le_pow_right (show 0 < 10 by decide) (show e ≤ 2 by omega) : 10 ^ e ≤ 10 ^ 2)
  have ha0 : 0 < 10 ^ e := Nat.pow_pos (by decide)
  refine z_cut (fun H locs ls => va_P D vwCl [(M, .inr (9, [.int th, .ref mtx, .int (nI len), .int (nI pl), .int (nI q5), .int (nI r5), .int (nI s5), .ref mod_, .int (nI n), .ref mne, .ref mro, .int (nI m), .int rrt, .int rfr, .int rpr, .ref mrod, .int (nI rn9), .ref mrne, .ref mrro, .int (nI rm9), .ref mrp, .ref mpg, .ref mbk, .int (nI ac), .ref mke, .ref mik, .int (nI cr), .ref mrw, .ref mrd, .long sd, .ref mtr, .ref mwo, .ref mnx, .int jr])), (mod_, .inl (cI, 4, .inl od)), (mpg, .inl (cI, 36, .inl g)), (mtr, .inl (cI, 36, .inl t)), (mnx, .inl (cI, 64, .inl nx))] H ∧ va_D A [(M, .inr (9, [.int th, .ref mtx, .int (nI len), .int (nI pl), .int (nI q5), .int (nI r5), .int (nI s5), .ref mod_, .int (nI n), .ref mne, .ref mro, .int (nI m), .int rrt, .int rfr, .int rpr, .ref mrod, .int (nI rn9), .ref mrne, .ref mrro, .int (nI rm9), .ref mrp, .ref mpg, .ref mbk, .int (nI ac), .ref mke, .ref mik, .int (nI cr), .ref mrw, .ref mrd, .long sd, .ref mtr, .ref mwo, .ref mnx, .int jr])), (mod_, .inl (cI, 4, .inl od)), (mpg, .inl (cI, 36, .inl g)), (mtr, .inl (cI, 36, .inl t)), (mnx, .inl (cI, 64, .inl nx))] ∧ va_S A sS.heap H locs ∧ lv_has ls 12 [(0, .ref M), (1, .int (nI p)), (2, .int (nI dy)), (3, .int (nI (e + 1))), (4, .int (nI w))]) 20 [.int (Ep (25 + p))] (fun H locs ls hI => ?_) (fun k_1 => ?_)
  · obtain ⟨hP, hD, hS, hl⟩ := hI
    refine lv_istore (lv' := [(5, .int (Ep (25 + p))), (0, .ref M), (1, .int (nI p)), (2, .int (nI dy)), (3, .int (nI (e + 1))), (4, .int (nI w))]) hx hb dX9_dayOf_20 hl (by decide) rfl (fun ls hl => ?_)
    refine z_cut (fun H locs ls => va_P D vwCl [(M, .inr (9, [.int th, .ref mtx, .int (nI len), .int (nI pl), .int (nI q5), .int (nI r5), .int (nI s5), .ref mod_, .int (nI n), .ref mne, .ref mro, .int (nI m), .int rrt, .int rfr, .int rpr, .ref mrod, .int (nI rn9), .ref mrne, .ref mrro, .int (nI rm9), .ref mrp, .ref mpg, .ref mbk, .int (nI ac), .ref mke, .ref mik, .int (nI cr), .ref mrw, .ref mrd, .long sd, .ref mtr, .ref mwo, .ref mnx, .int jr])), (mod_, .inl (cI, 4, .inl od)), (mpg, .inl (cI, 36, .inl g)), (mtr, .inl (cI, 36, .inl t)), (mnx, .inl (cI, 64, .inl nx))] H ∧ va_D A [(M, .inr (9, [.int th, .ref mtx, .int (nI len), .int (nI pl), .int (nI q5), .int (nI r5), .int (nI s5), .ref mod_, .int (nI n), .ref mne, .ref mro, .int (nI m), .int rrt, .int rfr, .int rpr, .ref mrod, .int (nI rn9), .ref mrne, .ref mrro, .int (nI rm9), .ref mrp, .ref mpg, .ref mbk, .int (nI ac), .ref mke, .ref mik, .int (nI cr), .ref mrw, .ref mrd, .long sd, .ref mtr, .ref mwo, .ref mnx, .int jr])), (mod_, .inl (cI, 4, .inl od)), (mpg, .inl (cI, 36, .inl g)), (mtr, .inl (cI, 36, .inl t)), (mnx, .inl (cI, 64, .inl nx))] ∧ va_S A sS.heap H locs ∧ lv_has ls 12 [(5, .int (Ep (25 + p))), (0, .ref M), (1, .int (nI p)), (2, .int (nI dy)), (3, .int (nI (e + 1))), (4, .int (nI w))]) 43 [.int (Ep (30 + p))] (fun H locs ls hI => ?_) (fun k_2 => ?_)
    · obtain ⟨hP, hD, hS, hl⟩ := hI
      refine lv_istore (lv' := [(6, .int (Ep (30 + p))), (5, .int (Ep (25 + p))), (0, .ref M), (1, .int (nI p)), (2, .int (nI dy)), (3, .int (nI (e + 1))), (4, .int (nI w))]) hx hb dX9_dayOf_43 hl (by decide) rfl (fun ls hl => ?_)
      refine lv_bipush (v := -9) hx hb dX9_dayOf_45 (by decide) ?_
      refine lv_istore (lv' := [(7, .int (-9)), (6, .int (Ep (30 + p))), (5, .int (Ep (25 + p))), (0, .ref M), (1, .int (nI p)), (2, .int (nI dy)), (3, .int (nI (e + 1))), (4, .int (nI w))]) hx hb dX9_dayOf_47 hl (by decide) rfl (fun ls hl => ?_)
      refine lv_bipush (v := -9) hx hb dX9_dayOf_49 (by decide) ?_
      refine lv_istore (lv' := [(8, .int (-9)), (7, .int (-9)), (6, .int (Ep (30 + p))), (5, .int (Ep (25 + p))), (0, .ref M), (1, .int (nI p)), (2, .int (nI dy)), (3, .int (nI (e + 1))), (4, .int (nI w))]) hx hb dX9_dayOf_51 hl (by decide) rfl (fun ls hl => ?_)
      have hl : lv_has ls 12 [(8, .int (-9)), (7, .int (-9)), (6, .int (Ep (30 + p))), (5, .int (Ep (25 + p))), (0, .ref M), (1, .int (nI p)), (2, .int (nI dy)), (3, .int (nI (e + 1))), (4, .int (nI w))] := lv_sub hl [0, 1, 2, 3, 4, 5, 6, 7, 8] rfl
      have e_4 : -9 = zdv 0 := by rfl
      have hl : lv_has ls 12 [(8, .int (zdv 0)), (7, .int (-9)), (6, .int (Ep (30 + p))), (5, .int (Ep (25 + p))), (0, .ref M), (1, .int (nI p)), (2, .int (nI dy)), (3, .int (nI (e + 1))), (4, .int (nI w))] := Eq.subst (motive := fun zz_ => lv_has ls 12 [(8, .int zz_), (7, .int (-9)), (6, .int (Ep (30 + p))), (5, .int (Ep (25 + p))), (0, .ref M), (1, .int (nI p)), (2, .int (nI dy)), (3, .int (nI (e + 1))), (4, .int (nI w))]) e_4 hl
      have e_5 : -9 = zLe Ep od (nI q5) (nI r5) (nI s5) p (nI (10 ^ e)) (nI cn) 0 := by rfl
      have hl : lv_has ls 12 [(8, .int (zdv 0)), (7, .int (zLe Ep od (nI q5) (nI r5) (nI s5) p (nI (10 ^ e)) (nI cn) 0)), (6, .int (Ep (30 + p))), (5, .int (Ep (25 + p))), (0, .ref M), (1, .int (nI p)), (2, .int (nI dy)), (3, .int (nI (e + 1))), (4, .int (nI w))] := Eq.subst (motive := fun zz_ => lv_has ls 12 [(8, .int (zdv 0)), (7, .int zz_), (6, .int (Ep (30 + p))), (5, .int (Ep (25 + p))), (0, .ref M), (1, .int (nI p)), (2, .int (nI dy)), (3, .int (nI (e + 1))), (4, .int (nI w))]) e_5 hl
      refine z_loop (fun j H locs ls => va_P D vwCl [(M, .inr (9, [.int th, .ref mtx, .int (nI len), .int (nI pl), .int (nI q5), .int (nI r5), .int (nI s5), .ref mod_, .int (nI n), .ref mne, .ref mro, .int (nI m), .int rrt, .int rfr, .int rpr, .ref mrod, .int (nI rn9), .ref mrne, .ref mrro, .int (nI rm9), .ref mrp, .ref mpg, .ref mbk, .int (nI ac), .ref mke, .ref mik, .int (nI cr), .ref mrw, .ref mrd, .long sd, .ref mtr, .ref mwo, .ref mnx, .int jr])), (mod_, .inl (cI, 4, .inl od)), (mpg, .inl (cI, 36, .inl g)), (mtr, .inl (cI, 36, .inl t)), (mnx, .inl (cI, 64, .inl nx))] H ∧ va_D A [(M, .inr (9, [.int th, .ref mtx, .int (nI len), .int (nI pl), .int (nI q5), .int (nI r5), .int (nI s5), .ref mod_, .int (nI n), .ref mne, .ref mro, .int (nI m), .int rrt, .int rfr, .int rpr, .ref mrod, .int (nI rn9), .ref mrne, .ref mrro, .int (nI rm9), .ref mrp, .ref mpg, .ref mbk, .int (nI ac), .ref mke, .ref mik, .int (nI cr), .ref mrw, .ref mrd, .long sd, .ref mtr, .ref mwo, .ref mnx, .int jr])), (mod_, .inl (cI, 4, .inl od)), (mpg, .inl (cI, 36, .inl g)), (mtr, .inl (cI, 36, .inl t)), (mnx, .inl (cI, 64, .inl nx))] ∧ va_S A sS.heap H locs ∧ lv_has ls 12 [(8, .int (zdv j)), (7, .int (zLe Ep od (nI q5) (nI r5) (nI s5) p (nI (10 ^ e)) (nI cn) j)), (6, .int (Ep (30 + p))), (5, .int (Ep (25 + p))), (0, .ref M), (1, .int (nI p)), (2, .int (nI dy)), (3, .int (nI (e + 1))), (4, .int (nI w))]) (5) (lo := 0) (by omega) ⟨hP, hD, hS, hl⟩ (fun j hi_j ih_3 H locs ls hI => ?_)
      obtain ⟨hP, hD, hS, hl⟩ := hI
      have hP : va_P D vwCl [(M, .inr (9, [.int th, .ref mtx, .int (nI len), .int (nI pl), .int (nI q5), .int (nI r5), .int (nI s5), .ref mod_, .int (nI n), .ref mne, .ref mro, .int (nI m), .int rrt, .int rfr, .int rpr, .ref mrod, .int (nI rn9), .ref mrne, .ref mrro, .int (nI rm9), .ref mrp, .ref mpg, .ref mbk, .int (nI ac), .ref mke, .ref mik, .int (nI cr), .ref mrw, .ref mrd, .long sd, .ref mtr, .ref mwo, .ref mnx, .int jr])), (mod_, .inl (cI, 4, .inl od)), (mpg, .inl (cI, 36, .inl g)), (mtr, .inl (cI, 36, .inl t)), (mnx, .inl (cI, 64, .inl nx))] H := hP
      have hD : va_D A [(M, .inr (9, [.int th, .ref mtx, .int (nI len), .int (nI pl), .int (nI q5), .int (nI r5), .int (nI s5), .ref mod_, .int (nI n), .ref mne, .ref mro, .int (nI m), .int rrt, .int rfr, .int rpr, .ref mrod, .int (nI rn9), .ref mrne, .ref mrro, .int (nI rm9), .ref mrp, .ref mpg, .ref mbk, .int (nI ac), .ref mke, .ref mik, .int (nI cr), .ref mrw, .ref mrd, .long sd, .ref mtr, .ref mwo, .ref mnx, .int jr])), (mod_, .inl (cI, 4, .inl od)), (mpg, .inl (cI, 36, .inl g)), (mtr, .inl (cI, 36, .inl t)), (mnx, .inl (cI, 64, .inl nx))] := hD
      have hl : lv_has ls 12 [(8, .int (zdv j)), (7, .int (zLe Ep od (nI q5) (nI r5) (nI s5) p (nI (10 ^ e)) (nI cn) j)), (6, .int (Ep (30 + p))), (5, .int (Ep (25 + p))), (0, .ref M), (1, .int (nI p)), (2, .int (nI dy)), (3, .int (nI (e + 1))), (4, .int (nI w))] := hl
      refine lv_iload hx hb dX9_dayOf_53 (lv_at hl 0 rfl) ?_
      refine lv_iconst (v := nI 4) hx hb dX9_dayOf_55 (by decide) ?_
      refine lv_icmp_ge (tgt := 236) hx hb dX9_dayOf_56 (by decide) (fun c_6 => ?_) (fun c_6 => ?_)
      · have c_6 : 4 ≤ (zdv j) := c_6
        have h5 := zdv_T j (by omega) c_6
        have hE_ : 5 = j := by omega
        subst hE_
        refine lv_iload hx hb dX9_dayOf_236 (lv_at hl 1 rfl) ?_
        exact z_iret Z () (by exact zLe_5) hP hS dX9_dayOf_238
      · have c_6 : ¬ (4 ≤ (zdv j)) := c_6
        have hj5 := zdv_F j (by omega) c_6
        refine z_cut (fun H locs ls => va_P D vwCl [(M, .inr (9, [.int th, .ref mtx, .int (nI len), .int (nI pl), .int (nI q5), .int (nI r5), .int (nI s5), .ref mod_, .int (nI n), .ref mne, .ref mro, .int (nI m), .int rrt, .int rfr, .int rpr, .ref mrod, .int (nI rn9), .ref mrne, .ref mrro, .int (nI rm9), .ref mrp, .ref mpg, .ref mbk, .int (nI ac), .ref mke, .ref mik, .int (nI cr), .ref mrw, .ref mrd, .long sd, .ref mtr, .ref mwo, .ref mnx, .int jr])), (mod_, .inl (cI, 4, .inl od)), (mpg, .inl (cI, 36, .inl g)), (mtr, .inl (cI, 36, .inl t)), (mnx, .inl (cI, 64, .inl nx))] H ∧ va_D A [(M, .inr (9, [.int th, .ref mtx, .int (nI len), .int (nI pl), .int (nI q5), .int (nI r5), .int (nI s5), .ref mod_, .int (nI n), .ref mne, .ref mro, .int (nI m), .int rrt, .int rfr, .int rpr, .ref mrod, .int (nI rn9), .ref mrne, .ref mrro, .int (nI rm9), .ref mrp, .ref mpg, .ref mbk, .int (nI ac), .ref mke, .ref mik, .int (nI cr), .ref mrw, .ref mrd, .long sd, .ref mtr, .ref mwo, .ref mnx, .int jr])), (mod_, .inl (cI, 4, .inl od)), (mpg, .inl (cI, 36, .inl g)), (mtr, .inl (cI, 36, .inl t)), (mnx, .inl (cI, 64, .inl nx))] ∧ va_S A sS.heap H locs ∧ lv_has ls 12 [(8, .int (zdv j)), (7, .int (zLe Ep od (nI q5) (nI r5) (nI s5) p (nI (10 ^ e)) (nI cn) j)), (6, .int (Ep (30 + p))), (5, .int (Ep (25 + p))), (0, .ref M), (1, .int (nI p)), (2, .int (nI dy)), (3, .int (nI (e + 1))), (4, .int (nI w))] ∧ (zdv j = -9 ∨ Ep (25 + p) = -9)) 73 [] (fun H locs ls hI => ?_) (fun k_7 => ?_)
        · obtain ⟨hP, hD, hS, hl, hv_k_7_0⟩ := hI
          have hor : zdv j = -9 ∨ Ep (25 + p) = -9 := by assumption
          refine z_cut (fun H locs ls => va_P D vwCl [(M, .inr (9, [.int th, .ref mtx, .int (nI len), .int (nI pl), .int (nI q5), .int (nI r5), .int (nI s5), .ref mod_, .int (nI n), .ref mne, .ref mro, .int (nI m), .int rrt, .int rfr, .int rpr, .ref mrod, .int (nI rn9), .ref mrne, .ref mrro, .int (nI rm9), .ref mrp, .ref mpg, .ref mbk, .int (nI ac), .ref mke, .ref mik, .int (nI cr), .ref mrw, .ref mrd, .long sd, .ref mtr, .ref mwo, .ref mnx, .int jr])), (mod_, .inl (cI, 4, .inl od)), (mpg, .inl (cI, 36, .inl g)), (mtr, .inl (cI, 36, .inl t)), (mnx, .inl (cI, 64, .inl nx))] H ∧ va_D A [(M, .inr (9, [.int th, .ref mtx, .int (nI len), .int (nI pl), .int (nI q5), .int (nI r5), .int (nI s5), .ref mod_, .int (nI n), .ref mne, .ref mro, .int (nI m), .int rrt, .int rfr, .int rpr, .ref mrod, .int (nI rn9), .ref mrne, .ref mrro, .int (nI rm9), .ref mrp, .ref mpg, .ref mbk, .int (nI ac), .ref mke, .ref mik, .int (nI cr), .ref mrw, .ref mrd, .long sd, .ref mtr, .ref mwo, .ref mnx, .int jr])), (mod_, .inl (cI, 4, .inl od)), (mpg, .inl (cI, 36, .inl g)), (mtr, .inl (cI, 36, .inl t)), (mnx, .inl (cI, 64, .inl nx))] ∧ va_S A sS.heap H locs ∧ lv_has ls 12 [(8, .int (zdv j)), (7, .int (zLe Ep od (nI q5) (nI r5) (nI s5) p (nI (10 ^ e)) (nI cn) j)), (6, .int (Ep (30 + p))), (5, .int (Ep (25 + p))), (0, .ref M), (1, .int (nI p)), (2, .int (nI dy)), (3, .int (nI (e + 1))), (4, .int (nI w))]) 93 [.int (zba (nI s5) (e + 1) j)] (fun H locs ls hI => ?_) (fun k_8 => ?_)
          · obtain ⟨hP, hD, hS, hl⟩ := hI
            refine lv_istore (lv' := [(9, .int (zba (nI s5) (e + 1) j)), (8, .int (zdv j)), (7, .int (zLe Ep od (nI q5) (nI r5) (nI s5) p (nI (10 ^ e)) (nI cn) j)), (6, .int (Ep (30 + p))), (5, .int (Ep (25 + p))), (0, .ref M), (1, .int (nI p)), (2, .int (nI dy)), (3, .int (nI (e + 1))), (4, .int (nI w))]) hx hb dX9_dayOf_93 hl (by decide) rfl (fun ls hl => ?_)
            refine lv_iconst (v := nI 0) hx hb dX9_dayOf_95 (by decide) ?_
            refine lv_istore (lv' := [(10, .int (nI 0)), (9, .int (zba (nI s5) (e + 1) j)), (8, .int (zdv j)), (7, .int (zLe Ep od (nI q5) (nI r5) (nI s5) p (nI (10 ^ e)) (nI cn) j)), (6, .int (Ep (30 + p))), (5, .int (Ep (25 + p))), (0, .ref M), (1, .int (nI p)), (2, .int (nI dy)), (3, .int (nI (e + 1))), (4, .int (nI w))]) hx hb dX9_dayOf_96 hl (by decide) rfl (fun ls hl => ?_)
            have hl : lv_has ls 12 [(10, .int (nI 0)), (9, .int (zba (nI s5) (e + 1) j)), (8, .int (zdv j)), (7, .int (zLe Ep od (nI q5) (nI r5) (nI s5) p (nI (10 ^ e)) (nI cn) j)), (6, .int (Ep (30 + p))), (5, .int (Ep (25 + p))), (0, .ref M), (1, .int (nI p)), (2, .int (nI dy)), (3, .int (nI (e + 1))), (4, .int (nI w))] := lv_sub hl [0, 1, 2, 3, 4, 5, 6, 7, 8, 9, 10] rfl
            have e_10 : zba (nI s5) (e + 1) j = zdy od t (nI q5) (nI r5) (Ep (30 + p)) (nI (10 ^ e)) (zba (nI s5) (e + 1) j) (zdc (Ep (25 + p)) j) (fun zk_ => if e + 1 = 1 then 0 else nx (4 * w + zk_)) 0 := by rfl
            have hl : lv_has ls 12 [(10, .int (nI 0)), (9, .int (zdy od t (nI q5) (nI r5) (Ep (30 + p)) (nI (10 ^ e)) (zba (nI s5) (e + 1) j) (zdc (Ep (25 + p)) j) (fun zk_ => if e + 1 = 1 then 0 else nx (4 * w + zk_)) 0)), (8, .int (zdv j)), (7, .int (zLe Ep od (nI q5) (nI r5) (nI s5) p (nI (10 ^ e)) (nI cn) j)), (6, .int (Ep (30 + p))), (5, .int (Ep (25 + p))), (0, .ref M), (1, .int (nI p)), (2, .int (nI dy)), (3, .int (nI (e + 1))), (4, .int (nI w))] := Eq.subst (motive := fun zz_ => lv_has ls 12 [(10, .int (nI 0)), (9, .int zz_), (8, .int (zdv j)), (7, .int (zLe Ep od (nI q5) (nI r5) (nI s5) p (nI (10 ^ e)) (nI cn) j)), (6, .int (Ep (30 + p))), (5, .int (Ep (25 + p))), (0, .ref M), (1, .int (nI p)), (2, .int (nI dy)), (3, .int (nI (e + 1))), (4, .int (nI w))]) e_10 hl
            refine z_loop (fun k H locs ls => va_P D vwCl [(M, .inr (9, [.int th, .ref mtx, .int (nI len), .int (nI pl), .int (nI q5), .int (nI r5), .int (nI s5), .ref mod_, .int (nI n), .ref mne, .ref mro, .int (nI m), .int rrt, .int rfr, .int rpr, .ref mrod, .int (nI rn9), .ref mrne, .ref mrro, .int (nI rm9), .ref mrp, .ref mpg, .ref mbk, .int (nI ac), .ref mke, .ref mik, .int (nI cr), .ref mrw, .ref mrd, .long sd, .ref mtr, .ref mwo, .ref mnx, .int jr])), (mod_, .inl (cI, 4, .inl od)), (mpg, .inl (cI, 36, .inl g)), (mtr, .inl (cI, 36, .inl t)), (mnx, .inl (cI, 64, .inl nx))] H ∧ va_D A [(M, .inr (9, [.int th, .ref mtx, .int (nI len), .int (nI pl), .int (nI q5), .int (nI r5), .int (nI s5), .ref mod_, .int (nI n), .ref mne, .ref mro, .int (nI m), .int rrt, .int rfr, .int rpr, .ref mrod, .int (nI rn9), .ref mrne, .ref mrro, .int (nI rm9), .ref mrp, .ref mpg, .ref mbk, .int (nI ac), .ref mke, .ref mik, .int (nI cr), .ref mrw, .ref mrd, .long sd, .ref mtr, .ref mwo, .ref mnx, .int jr])), (mod_, .inl (cI, 4, .inl od)), (mpg, .inl (cI, 36, .inl g)), (mtr, .inl (cI, 36, .inl t)), (mnx, .inl (cI, 64, .inl nx))] ∧ va_S A sS.heap H locs ∧ lv_has ls 12 [(10, .int (nI k)), (9, .int (zdy od t (nI q5) (nI r5) (Ep (30 + p)) (nI (10 ^ e)) (zba (nI s5) (e + 1) j) (zdc (Ep (25 + p)) j) (fun zk_ => if e + 1 = 1 then 0 else nx (4 * w + zk_)) k)), (8, .int (zdv j)), (7, .int (zLe Ep od (nI q5) (nI r5) (nI s5) p (nI (10 ^ e)) (nI cn) j)), (6, .int (Ep (30 + p))), (5, .int (Ep (25 + p))), (0, .ref M), (1, .int (nI p)), (2, .int (nI dy)), (3, .int (nI (e + 1))), (4, .int (nI w))]) (4) (lo := 0) (by omega) ⟨hP, hD, hS, hl⟩ (fun k hi_k ih_9 H locs ls hI => ?_)
            obtain ⟨hP, hD, hS, hl⟩ := hI
            have hP : va_P D vwCl [(M, .inr (9, [.int th, .ref mtx, .int (nI len), .int (nI pl), .int (nI q5), .int (nI r5), .int (nI s5), .ref mod_, .int (nI n), .ref mne, .ref mro, .int (nI m), .int rrt, .int rfr, .int rpr, .ref mrod, .int (nI rn9), .ref mrne, .ref mrro, .int (nI rm9), .ref mrp, .ref mpg, .ref mbk, .int (nI ac), .ref mke, .ref mik, .int (nI cr), .ref mrw, .ref mrd, .long sd, .ref mtr, .ref mwo, .ref mnx, .int jr])), (mod_, .inl (cI, 4, .inl od)), (mpg, .inl (cI, 36, .inl g)), (mtr, .inl (cI, 36, .inl t)), (mnx, .inl (cI, 64, .inl nx))] H := hP
            have hD : va_D A [(M, .inr (9, [.int th, .ref mtx, .int (nI len), .int (nI pl), .int (nI q5), .int (nI r5), .int (nI s5), .ref mod_, .int (nI n), .ref mne, .ref mro, .int (nI m), .int rrt, .int rfr, .int rpr, .ref mrod, .int (nI rn9), .ref mrne, .ref mrro, .int (nI rm9), .ref mrp, .ref mpg, .ref mbk, .int (nI ac), .ref mke, .ref mik, .int (nI cr), .ref mrw, .ref mrd, .long sd, .ref mtr, .ref mwo, .ref mnx, .int jr])), (mod_, .inl (cI, 4, .inl od)), (mpg, .inl (cI, 36, .inl g)), (mtr, .inl (cI, 36, .inl t)), (mnx, .inl (cI, 64, .inl nx))] := hD
            have hl : lv_has ls 12 [(10, .int (nI k)), (9, .int (zdy od t (nI q5) (nI r5) (Ep (30 + p)) (nI (10 ^ e)) (zba (nI s5) (e + 1) j) (zdc (Ep (25 + p)) j) (fun zk_ => if e + 1 = 1 then 0 else nx (4 * w + zk_)) k)), (8, .int (zdv j)), (7, .int (zLe Ep od (nI q5) (nI r5) (nI s5) p (nI (10 ^ e)) (nI cn) j)), (6, .int (Ep (30 + p))), (5, .int (Ep (25 + p))), (0, .ref M), (1, .int (nI p)), (2, .int (nI dy)), (3, .int (nI (e + 1))), (4, .int (nI w))] := hl
            refine lv_iload hx hb dX9_dayOf_98 (lv_at hl 0 rfl) ?_
            refine lv_iconst (v := nI 4) hx hb dX9_dayOf_100 (by decide) ?_
            refine lv_icmp_ge (tgt := 193) hx hb dX9_dayOf_101 (by decide) (fun c_11 => ?_) (fun c_11 => ?_)
            · have c_11 := zle (i := 4) (j := k) (by decide) (by omega) c_11
              have hE_ : 4 = k := by omega
              subst hE_
              have hE : (zdy od t (nI q5) (nI r5) (Ep (30 + p)) (nI (10 ^ e)) (zba (nI s5) (e + 1) j) (zdc (Ep (25 + p)) j) (fun zk_ => if e + 1 = 1 then 0 else nx (4 * w + zk_)) 4 : Int32) = (zLs Ep od (nI q5) (nI r5) (nI s5) p (nI (10 ^ e)) (nI cn) j) := by rw [zdy_eq ht rfl 4 (Nat.le_refl 4), hcn]; exact zLs_eq hp5 rfl
              have hl : lv_has ls 12 [(10, .int (nI 4)), (9, .int (zLs Ep od (nI q5) (nI r5) (nI s5) p (nI (10 ^ e)) (nI cn) j)), (8, .int (zdv j)), (7, .int (zLe Ep od (nI q5) (nI r5) (nI s5) p (nI (10 ^ e)) (nI cn) j)), (6, .int (Ep (30 + p))), (5, .int (Ep (25 + p))), (0, .ref M), (1, .int (nI p)), (2, .int (nI dy)), (3, .int (nI (e + 1))), (4, .int (nI w))] := Eq.subst (motive := fun zz_ => lv_has ls 12 [(10, .int (nI 4)), (9, .int zz_), (8, .int (zdv j)), (7, .int (zLe Ep od (nI q5) (nI r5) (nI s5) p (nI (10 ^ e)) (nI cn) j)), (6, .int (Ep (30 + p))), (5, .int (Ep (25 + p))), (0, .ref M), (1, .int (nI p)), (2, .int (nI dy)), (3, .int (nI (e + 1))), (4, .int (nI w))]) hE hl
              refine z_cut (fun H locs ls => va_P D vwCl [(M, .inr (9, [.int th, .ref mtx, .int (nI len), .int (nI pl), .int (nI q5), .int (nI r5), .int (nI s5), .ref mod_, .int (nI n), .ref mne, .ref mro, .int (nI m), .int rrt, .int rfr, .int rpr, .ref mrod, .int (nI rn9), .ref mrne, .ref mrro, .int (nI rm9), .ref mrp, .ref mpg, .ref mbk, .int (nI ac), .ref mke, .ref mik, .int (nI cr), .ref mrw, .ref mrd, .long sd, .ref mtr, .ref mwo, .ref mnx, .int jr])), (mod_, .inl (cI, 4, .inl od)), (mpg, .inl (cI, 36, .inl g)), (mtr, .inl (cI, 36, .inl t)), (mnx, .inl (cI, 64, .inl nx))] H ∧ va_D A [(M, .inr (9, [.int th, .ref mtx, .int (nI len), .int (nI pl), .int (nI q5), .int (nI r5), .int (nI s5), .ref mod_, .int (nI n), .ref mne, .ref mro, .int (nI m), .int rrt, .int rfr, .int rpr, .ref mrod, .int (nI rn9), .ref mrne, .ref mrro, .int (nI rm9), .ref mrp, .ref mpg, .ref mbk, .int (nI ac), .ref mke, .ref mik, .int (nI cr), .ref mrw, .ref mrd, .long sd, .ref mtr, .ref mwo, .ref mnx, .int jr])), (mod_, .inl (cI, 4, .inl od)), (mpg, .inl (cI, 36, .inl g)), (mtr, .inl (cI, 36, .inl t)), (mnx, .inl (cI, 64, .inl nx))] ∧ va_S A sS.heap H locs ∧ lv_has ls 12 [(8, .int (zdv j)), (7, .int (zLe Ep od (nI q5) (nI r5) (nI s5) p (nI (10 ^ e)) (nI cn) (j + 1))), (6, .int (Ep (30 + p))), (5, .int (Ep (25 + p))), (0, .ref M), (1, .int (nI p)), (2, .int (nI dy)), (3, .int (nI (e + 1))), (4, .int (nI w))]) 216 [] (fun H locs ls hI => ?_) (fun k_12 => ?_)
              · obtain ⟨hP, hD, hS, hl⟩ := hI
                refine lv_iload hx hb dX9_dayOf_216 (lv_at hl 0 rfl) ?_
                refine lv_bipush (v := -9) hx hb dX9_dayOf_218 (by decide) ?_
                refine lv_icmp_ne (tgt := 227) hx hb dX9_dayOf_220 (by decide) (fun c_13 => ?_) (fun c_13 => ?_)
                · have c_13 : ¬ ((zdv j) = (-9)) := c_13
                  refine lv_iload hx hb dX9_dayOf_227 (lv_at hl 0 rfl) ?_
                  refine lv_iconst (v := nI 1) hx hb dX9_dayOf_229 (by decide) ?_
                  refine lv_iadd hx hb dX9_dayOf_230 ?_
                  refine z_top (y := (zdv j) + 1) rfl ?_
                  refine lv_istore (lv' := [(8, .int ((zdv j) + 1)), (7, .int (zLe Ep od (nI q5) (nI r5) (nI s5) p (nI (10 ^ e)) (nI cn) (j + 1))), (6, .int (Ep (30 + p))), (5, .int (Ep (25 + p))), (0, .ref M), (1, .int (nI p)), (2, .int (nI dy)), (3, .int (nI (e + 1))), (4, .int (nI w))]) hx hb dX9_dayOf_231 hl (by decide) rfl (fun ls hl => ?_)
                  refine lv_goto (tgt := 53) hx hb dX9_dayOf_233 (by decide) ?_
                  have hl : lv_has ls 12 [(8, .int ((zdv j) + 1)), (7, .int (zLe Ep od (nI q5) (nI r5) (nI s5) p (nI (10 ^ e)) (nI cn) (j + 1))), (6, .int (Ep (30 + p))), (5, .int (Ep (25 + p))), (0, .ref M), (1, .int (nI p)), (2, .int (nI dy)), (3, .int (nI (e + 1))), (4, .int (nI w))] := lv_sub hl [0, 1, 2, 3, 4, 5, 6, 7, 8] rfl
                  have e_14 : (zdv j) + 1 = zdv (j + 1) := by first | exact zdv_a j hj5 (by assumption) | exact zdv_b j hj5 (by assumption) | exact zLe_k (zdv_n (by assumption)) (by assumption)
                  have hl : lv_has ls 12 [(8, .int (zdv (j + 1))), (7, .int (zLe Ep od (nI q5) (nI r5) (nI s5) p (nI (10 ^ e)) (nI cn) (j + 1))), (6, .int (Ep (30 + p))), (5, .int (Ep (25 + p))), (0, .ref M), (1, .int (nI p)), (2, .int (nI dy)), (3, .int (nI (e + 1))), (4, .int (nI w))] := Eq.subst (motive := fun zz_ => lv_has ls 12 [(8, .int zz_), (7, .int (zLe Ep od (nI q5) (nI r5) (nI s5) p (nI (10 ^ e)) (nI cn) (j + 1))), (6, .int (Ep (30 + p))), (5, .int (Ep (25 + p))), (0, .ref M), (1, .int (nI p)), (2, .int (nI dy)), (3, .int (nI (e + 1))), (4, .int (nI w))]) e_14 hl
                  exact ih_3 _ _ _ (by omega) ⟨hP, hD, hS, hl⟩
                · have c_13 : (zdv j) = (-9) := c_13
                  refine lv_iconst (v := nI 0) hx hb dX9_dayOf_223 (by decide) ?_
                  refine lv_goto (tgt := 231) hx hb dX9_dayOf_224 (by decide) ?_
                  refine lv_istore (lv' := [(8, .int (nI 0)), (7, .int (zLe Ep od (nI q5) (nI r5) (nI s5) p (nI (10 ^ e)) (nI cn) (j + 1))), (6, .int (Ep (30 + p))), (5, .int (Ep (25 + p))), (0, .ref M), (1, .int (nI p)), (2, .int (nI dy)), (3, .int (nI (e + 1))), (4, .int (nI w))]) hx hb dX9_dayOf_231 hl (by decide) rfl (fun ls hl => ?_)
                  refine lv_goto (tgt := 53) hx hb dX9_dayOf_233 (by decide) ?_
                  have hl : lv_has ls 12 [(8, .int (nI 0)), (7, .int (zLe Ep od (nI q5) (nI r5) (nI s5) p (nI (10 ^ e)) (nI cn) (j + 1))), (6, .int (Ep (30 + p))), (5, .int (Ep (25 + p))), (0, .ref M), (1, .int (nI p)), (2, .int (nI dy)), (3, .int (nI (e + 1))), (4, .int (nI w))] := lv_sub hl [0, 1, 2, 3, 4, 5, 6, 7, 8] rfl
                  have e_15 : nI 0 = zdv (j + 1) := by first | exact zdv_a j hj5 (by assumption) | exact zdv_b j hj5 (by assumption) | exact zLe_k (zdv_n (by assumption)) (by assumption)
                  have hl : lv_has ls 12 [(8, .int (zdv (j + 1))), (7, .int (zLe Ep od (nI q5) (nI r5) (nI s5) p (nI (10 ^ e)) (nI cn) (j + 1))), (6, .int (Ep (30 + p))), (5, .int (Ep (25 + p))), (0, .ref M), (1, .int (nI p)), (2, .int (nI dy)), (3, .int (nI (e + 1))), (4, .int (nI w))] := Eq.subst (motive := fun zz_ => lv_has ls 12 [(8, .int zz_), (7, .int (zLe Ep od (nI q5) (nI r5) (nI s5) p (nI (10 ^ e)) (nI cn) (j + 1))), (6, .int (Ep (30 + p))), (5, .int (Ep (25 + p))), (0, .ref M), (1, .int (nI p)), (2, .int (nI dy)), (3, .int (nI (e + 1))), (4, .int (nI w))]) e_15 hl
                  exact ih_3 _ _ _ (by omega) ⟨hP, hD, hS, hl⟩
              · skip
                refine lv_iload hx hb dX9_dayOf_193 (lv_at hl 3 rfl) ?_
                refine lv_bipush (v := -9) hx hb dX9_dayOf_195 (by decide) ?_
                refine lv_icmp_eq (tgt := 207) hx hb dX9_dayOf_197 (by decide) (fun c_16 => ?_) (fun c_16 => ?_)
                · have c_16 : (zLe Ep od (nI q5) (nI r5) (nI s5) p (nI (10 ^ e)) (nI cn) j) = (-9) := c_16
                  refine lv_iload hx hb dX9_dayOf_207 (lv_at hl 1 rfl) ?_
                  refine lv_goto (tgt := 214) hx hb dX9_dayOf_209 (by decide) ?_
                  refine lv_istore (lv' := [(7, .int (zLs Ep od (nI q5) (nI r5) (nI s5) p (nI (10 ^ e)) (nI cn) j)), (10, .int (nI 4)), (9, .int (zLs Ep od (nI q5) (nI r5) (nI s5) p (nI (10 ^ e)) (nI cn) j)), (8, .int (zdv j)), (6, .int (Ep (30 + p))), (5, .int (Ep (25 + p))), (0, .ref M), (1, .int (nI p)), (2, .int (nI dy)), (3, .int (nI (e + 1))), (4, .int (nI w))]) hx hb dX9_dayOf_214 hl (by decide) rfl (fun ls hl => ?_)
                  have hl : lv_has ls 12 [(8, .int (zdv j)), (7, .int (zLs Ep od (nI q5) (nI r5) (nI s5) p (nI (10 ^ e)) (nI cn) j)), (6, .int (Ep (30 + p))), (5, .int (Ep (25 + p))), (0, .ref M), (1, .int (nI p)), (2, .int (nI dy)), (3, .int (nI (e + 1))), (4, .int (nI w))] := lv_sub hl [3, 0, 4, 5, 6, 7, 8, 9, 10] rfl
                  have e_17 : zLs Ep od (nI q5) (nI r5) (nI s5) p (nI (10 ^ e)) (nI cn) j = zLe Ep od (nI q5) (nI r5) (nI s5) p (nI (10 ^ e)) (nI cn) (j + 1) := by first | exact zLe_a hp5 hv1 hov hq hr hs ha hcn2 (by omega) (by assumption) | (rw [zLe_s hp5 hv1 hov hq hr hs ha0 ha hcn2 hj5 hor (by assumption), if_pos (by assumption)]; done) | (rw [zLe_s hp5 hv1 hov hq hr hs ha0 ha hcn2 hj5 hor (by assumption), if_neg (by assumption)]; done)
                  have hl : lv_has ls 12 [(8, .int (zdv j)), (7, .int (zLe Ep od (nI q5) (nI r5) (nI s5) p (nI (10 ^ e)) (nI cn) (j + 1))), (6, .int (Ep (30 + p))), (5, .int (Ep (25 + p))), (0, .ref M), (1, .int (nI p)), (2, .int (nI dy)), (3, .int (nI (e + 1))), (4, .int (nI w))] := Eq.subst (motive := fun zz_ => lv_has ls 12 [(8, .int (zdv j)), (7, .int zz_), (6, .int (Ep (30 + p))), (5, .int (Ep (25 + p))), (0, .ref M), (1, .int (nI p)), (2, .int (nI dy)), (3, .int (nI (e + 1))), (4, .int (nI w))]) e_17 hl
                  exact k_12 _ _ _ ⟨hP, hD, hS, hl⟩
                · have c_16 : ¬ ((zLe Ep od (nI q5) (nI r5) (nI s5) p (nI (10 ^ e)) (nI cn) j) = (-9)) := c_16
                  refine lv_iload hx hb dX9_dayOf_200 (lv_at hl 1 rfl) ?_
                  refine lv_iload hx hb dX9_dayOf_202 (lv_at hl 3 rfl) ?_
                  refine lv_icmp_ge (tgt := 212) hx hb dX9_dayOf_204 (by decide) (fun c_18 => ?_) (fun c_18 => ?_)
                  · have c_18 : (zLe Ep od (nI q5) (nI r5) (nI s5) p (nI (10 ^ e)) (nI cn) j) ≤ (zLs Ep od (nI q5) (nI r5) (nI s5) p (nI (10 ^ e)) (nI cn) j) := c_18
                    refine lv_iload hx hb dX9_dayOf_212 (lv_at hl 3 rfl) ?_
                    refine lv_istore (lv' := [(7, .int (zLe Ep od (nI q5) (nI r5) (nI s5) p (nI (10 ^ e)) (nI cn) j)), (10, .int (nI 4)), (9, .int (zLs Ep od (nI q5) (nI r5) (nI s5) p (nI (10 ^ e)) (nI cn) j)), (8, .int (zdv j)), (6, .int (Ep (30 + p))), (5, .int (Ep (25 + p))), (0, .ref M), (1, .int (nI p)), (2, .int (nI dy)), (3, .int (nI (e + 1))), (4, .int (nI w))]) hx hb dX9_dayOf_214 hl (by decide) rfl (fun ls hl => ?_)
                    have hl : lv_has ls 12 [(8, .int (zdv j)), (7, .int (zLe Ep od (nI q5) (nI r5) (nI s5) p (nI (10 ^ e)) (nI cn) j)), (6, .int (Ep (30 + p))), (5, .int (Ep (25 + p))), (0, .ref M), (1, .int (nI p)), (2, .int (nI dy)), (3, .int (nI (e + 1))), (4, .int (nI w))] := lv_sub hl [3, 0, 4, 5, 6, 7, 8, 9, 10] rfl
                    have e_19 : zLe Ep od (nI q5) (nI r5) (nI s5) p (nI (10 ^ e)) (nI cn) j = zLe Ep od (nI q5) (nI r5) (nI s5) p (nI (10 ^ e)) (nI cn) (j + 1) := by first | exact zLe_a hp5 hv1 hov hq hr hs ha hcn2 (by omega) (by assumption) | (rw [zLe_s hp5 hv1 hov hq hr hs ha0 ha hcn2 hj5 hor (by assumption), if_pos (by assumption)]; done) | (rw [zLe_s hp5 hv1 hov hq hr hs ha0 ha hcn2 hj5 hor (by assumption), if_neg (by assumption)]; done)
                    have hl : lv_has ls 12 [(8, .int (zdv j)), (7, .int (zLe Ep od (nI q5) (nI r5) (nI s5) p (nI (10 ^ e)) (nI cn) (j + 1))), (6, .int (Ep (30 + p))), (5, .int (Ep (25 + p))), (0, .ref M), (1, .int (nI p)), (2, .int (nI dy)), (3, .int (nI (e + 1))), (4, .int (nI w))] := Eq.subst (motive := fun zz_ => lv_has ls 12 [(8, .int (zdv j)), (7, .int zz_), (6, .int (Ep (30 + p))), (5, .int (Ep (25 + p))), (0, .ref M), (1, .int (nI p)), (2, .int (nI dy)), (3, .int (nI (e + 1))), (4, .int (nI w))]) e_19 hl
                    exact k_12 _ _ _ ⟨hP, hD, hS, hl⟩
                  · have c_18 : ¬ ((zLe Ep od (nI q5) (nI r5) (nI s5) p (nI (10 ^ e)) (nI cn) j) ≤ (zLs Ep od (nI q5) (nI r5) (nI s5) p (nI (10 ^ e)) (nI cn) j)) := c_18
                    refine lv_iload hx hb dX9_dayOf_207 (lv_at hl 1 rfl) ?_
                    refine lv_goto (tgt := 214) hx hb dX9_dayOf_209 (by decide) ?_
                    refine lv_istore (lv' := [(7, .int (zLs Ep od (nI q5) (nI r5) (nI s5) p (nI (10 ^ e)) (nI cn) j)), (10, .int (nI 4)), (9, .int (zLs Ep od (nI q5) (nI r5) (nI s5) p (nI (10 ^ e)) (nI cn) j)), (8, .int (zdv j)), (6, .int (Ep (30 + p))), (5, .int (Ep (25 + p))), (0, .ref M), (1, .int (nI p)), (2, .int (nI dy)), (3, .int (nI (e + 1))), (4, .int (nI w))]) hx hb dX9_dayOf_214 hl (by decide) rfl (fun ls hl => ?_)
                    have hl : lv_has ls 12 [(8, .int (zdv j)), (7, .int (zLs Ep od (nI q5) (nI r5) (nI s5) p (nI (10 ^ e)) (nI cn) j)), (6, .int (Ep (30 + p))), (5, .int (Ep (25 + p))), (0, .ref M), (1, .int (nI p)), (2, .int (nI dy)), (3, .int (nI (e + 1))), (4, .int (nI w))] := lv_sub hl [3, 0, 4, 5, 6, 7, 8, 9, 10] rfl
                    have e_20 : zLs Ep od (nI q5) (nI r5) (nI s5) p (nI (10 ^ e)) (nI cn) j = zLe Ep od (nI q5) (nI r5) (nI s5) p (nI (10 ^ e)) (nI cn) (j + 1) := by first | exact zLe_a hp5 hv1 hov hq hr hs ha hcn2 (by omega) (by assumption) | (rw [zLe_s hp5 hv1 hov hq hr hs ha0 ha hcn2 hj5 hor (by assumption), if_pos (by assumption)]; done) | (rw [zLe_s hp5 hv1 hov hq hr hs ha0 ha hcn2 hj5 hor (by assumption), if_neg (by assumption)]; done)
                    have hl : lv_has ls 12 [(8, .int (zdv j)), (7, .int (zLe Ep od (nI q5) (nI r5) (nI s5) p (nI (10 ^ e)) (nI cn) (j + 1))), (6, .int (Ep (30 + p))), (5, .int (Ep (25 + p))), (0, .ref M), (1, .int (nI p)), (2, .int (nI dy)), (3, .int (nI (e + 1))), (4, .int (nI w))] := Eq.subst (motive := fun zz_ => lv_has ls 12 [(8, .int (zdv j)), (7, .int zz_), (6, .int (Ep (30 + p))), (5, .int (Ep (25 + p))), (0, .ref M), (1, .int (nI p)), (2, .int (nI dy)), (3, .int (nI (e + 1))), (4, .int (nI w))]) e_20 hl
                    exact k_12 _ _ _ ⟨hP, hD, hS, hl⟩
            · have c_11 := znle (i := 4) (j := k) (by decide) (by omega) c_11
              refine lv_aload_n hx hb dX9_dayOf_104 rfl (lv_at hl 6 rfl) ?_
              refine z_get (ci := 9) (v := .int (nI q5)) Z zin9 hP 0 rfl rfl 4 (by decide) zm681 rfl rfl dX9_dayOf_105 ?_
              refine lv_aload_n hx hb dX9_dayOf_108 rfl (lv_at hl 6 rfl) ?_
              refine z_get (ci := 9) (v := .ref mtr) Z zin9 hP 0 rfl rfl 30 (by decide) zm707 rfl rfl dX9_dayOf_109 ?_
              refine lv_iload hx hb dX9_dayOf_112 (lv_at hl 0 rfl) ?_
              refine z_iald (n := 36) (f := t) (j := k) Z hP 3 rfl (by omega) (by decide) dX9_dayOf_114 ?_
              refine lv_iload hx hb dX9_dayOf_115 (lv_at hl 0 rfl) ?_
              refine z_cut (fun H locs ls => va_P D vwCl [(M, .inr (9, [.int th, .ref mtx, .int (nI len), .int (nI pl), .int (nI q5), .int (nI r5), .int (nI s5), .ref mod_, .int (nI n), .ref mne, .ref mro, .int (nI m), .int rrt, .int rfr, .int rpr, .ref mrod, .int (nI rn9), .ref mrne, .ref mrro, .int (nI rm9), .ref mrp, .ref mpg, .ref mbk, .int (nI ac), .ref mke, .ref mik, .int (nI cr), .ref mrw, .ref mrd, .long sd, .ref mtr, .ref mwo, .ref mnx, .int jr])), (mod_, .inl (cI, 4, .inl od)), (mpg, .inl (cI, 36, .inl g)), (mtr, .inl (cI, 36, .inl t)), (mnx, .inl (cI, 64, .inl nx))] H ∧ va_D A [(M, .inr (9, [.int th, .ref mtx, .int (nI len), .int (nI pl), .int (nI q5), .int (nI r5), .int (nI s5), .ref mod_, .int (nI n), .ref mne, .ref mro, .int (nI m), .int rrt, .int rfr, .int rpr, .ref mrod, .int (nI rn9), .ref mrne, .ref mrro, .int (nI rm9), .ref mrp, .ref mpg, .ref mbk, .int (nI ac), .ref mke, .ref mik, .int (nI cr), .ref mrw, .ref mrd, .long sd, .ref mtr, .ref mwo, .ref mnx, .int jr])), (mod_, .inl (cI, 4, .inl od)), (mpg, .inl (cI, 36, .inl g)), (mtr, .inl (cI, 36, .inl t)), (mnx, .inl (cI, 64, .inl nx))] ∧ va_S A sS.heap H locs ∧ lv_has ls 12 [(10, .int (nI k)), (9, .int (zdy od t (nI q5) (nI r5) (Ep (30 + p)) (nI (10 ^ e)) (zba (nI s5) (e + 1) j) (zdc (Ep (25 + p)) j) (fun zk_ => if e + 1 = 1 then 0 else nx (4 * w + zk_)) k)), (8, .int (zdv j)), (7, .int (zLe Ep od (nI q5) (nI r5) (nI s5) p (nI (10 ^ e)) (nI cn) j)), (6, .int (Ep (30 + p))), (5, .int (Ep (25 + p))), (0, .ref M), (1, .int (nI p)), (2, .int (nI dy)), (3, .int (nI (e + 1))), (4, .int (nI w))]) 131 [.int (zdc (Ep (25 + p)) j), .int (nI k), .int (t k), .int (nI q5)] (fun H locs ls hI => ?_) (fun k_21 => ?_)
              · obtain ⟨hP, hD, hS, hl⟩ := hI
                refine lv_iload hx hb dX9_dayOf_131 (lv_at hl 4 rfl) ?_
                refine lv_aload_n hx hb dX9_dayOf_133 rfl (lv_at hl 6 rfl) ?_
                refine z_get (ci := 9) (v := .int (nI r5)) Z zin9 hP 0 rfl rfl 5 (by decide) zm682 rfl rfl dX9_dayOf_134 ?_
                refine z_callSi (As := [.int (t k), .int (nI k), .int (zdc (Ep (25 + p)) j), .int (Ep (30 + p)), .int (nI r5)]) (rest := [.int (nI q5)]) Z hP hD hS hl.1 (zc_X9_surprise l D cI cZ (t k) k (zdc (Ep (25 + p)) j) (Ep (30 + p)) (nI r5) (by omega)) zm826 zm827 zm39 zm828 zd_X9_surprise ⟨Nat.le_of_ble_eq_true rfl, Nat.le_of_ble_eq_true rfl⟩ ⟨Nat.zero_le _, Nat.zero_le _⟩ [] rfl (by decide) (fun _ => rfl) rfl (Nat.le_of_ble_eq_true rfl) rfl dX9_dayOf_137 (fun r_22 u H locs h_23 hP hD hS => ?_)
                have hP : va_P D vwCl [(M, .inr (9, [.int th, .ref mtx, .int (nI len), .int (nI pl), .int (nI q5), .int (nI r5), .int (nI s5), .ref mod_, .int (nI n), .ref mne, .ref mro, .int (nI m), .int rrt, .int rfr, .int rpr, .ref mrod, .int (nI rn9), .ref mrne, .ref mrro, .int (nI rm9), .ref mrp, .ref mpg, .ref mbk, .int (nI ac), .ref mke, .ref mik, .int (nI cr), .ref mrw, .ref mrd, .long sd, .ref mtr, .ref mwo, .ref mnx, .int jr])), (mod_, .inl (cI, 4, .inl od)), (mpg, .inl (cI, 36, .inl g)), (mtr, .inl (cI, 36, .inl t)), (mnx, .inl (cI, 64, .inl nx))] H := hP
                have hD : va_D A [(M, .inr (9, [.int th, .ref mtx, .int (nI len), .int (nI pl), .int (nI q5), .int (nI r5), .int (nI s5), .ref mod_, .int (nI n), .ref mne, .ref mro, .int (nI m), .int rrt, .int rfr, .int rpr, .ref mrod, .int (nI rn9), .ref mrne, .ref mrro, .int (nI rm9), .ref mrp, .ref mpg, .ref mbk, .int (nI ac), .ref mke, .ref mik, .int (nI cr), .ref mrw, .ref mrd, .long sd, .ref mtr, .ref mwo, .ref mnx, .int jr])), (mod_, .inl (cI, 4, .inl od)), (mpg, .inl (cI, 36, .inl g)), (mtr, .inl (cI, 36, .inl t)), (mnx, .inl (cI, 64, .inl nx))] := hD
                have h_23 : r_22 = zsu (t k) (zdc (Ep (25 + p)) j) (Ep (30 + p)) (nI k) (nI r5) := h_23
                subst h_23
                refine lv_imul hx hb dX9_dayOf_140 ?_
                refine z_top (y := (nI q5) * (zsu (t k) (zdc (Ep (25 + p)) j) (Ep (30 + p)) (nI k) (nI r5))) rfl ?_
                refine lv_istore (lv' := [(11, .int ((nI q5) * (zsu (t k) (zdc (Ep (25 + p)) j) (Ep (30 + p)) (nI k) (nI r5)))), (10, .int (nI k)), (9, .int (zdy od t (nI q5) (nI r5) (Ep (30 + p)) (nI (10 ^ e)) (zba (nI s5) (e + 1) j) (zdc (Ep (25 + p)) j) (fun zk_ => if e + 1 = 1 then 0 else nx (4 * w + zk_)) k)), (8, .int (zdv j)), (7, .int (zLe Ep od (nI q5) (nI r5) (nI s5) p (nI (10 ^ e)) (nI cn) j)), (6, .int (Ep (30 + p))), (5, .int (Ep (25 + p))), (0, .ref M), (1, .int (nI p)), (2, .int (nI dy)), (3, .int (nI (e + 1))), (4, .int (nI w))]) hx hb dX9_dayOf_141 hl (by decide) rfl (fun ls hl => ?_)
                refine lv_iload hx hb dX9_dayOf_143 (lv_at hl 2 rfl) ?_
                refine lv_aload_n hx hb dX9_dayOf_145 rfl (lv_at hl 7 rfl) ?_
                refine z_get (ci := 9) (v := .ref mod_) Z zin9 hP 0 rfl rfl 7 (by decide) zm684 rfl rfl dX9_dayOf_146 ?_
                refine lv_iload hx hb dX9_dayOf_149 (lv_at hl 1 rfl) ?_
                refine z_iald (n := 4) (f := od) (j := k) Z hP 1 rfl (by omega) (by decide) dX9_dayOf_151 ?_
                refine lv_iload hx hb dX9_dayOf_152 (lv_at hl 0 rfl) ?_
                refine lv_iload_n hx hb dX9_dayOf_154 rfl (lv_at hl 10 rfl) ?_
                refine lv_iconst (v := nI 1) hx hb dX9_dayOf_155 (by decide) ?_
                refine lv_isub hx hb dX9_dayOf_156 ?_
                refine z_top (y := nI ((e + 1) - 1)) (z_sub' (by omega)) ?_
                refine z_top (y := nI e) (rfl) ?_
                refine z_callSi (As := [.int (nI e)]) (rest := [.int ((nI q5) * (zsu (t k) (zdc (Ep (25 + p)) j) (Ep (30 + p)) (nI k) (nI r5))), .int (od k), .int (zdy od t (nI q5) (nI r5) (Ep (30 + p)) (nI (10 ^ e)) (zba (nI s5) (e + 1) j) (zdc (Ep (25 + p)) j) (fun zk_ => if e + 1 = 1 then 0 else nx (4 * w + zk_)) k)]) Z hP hD hS hl.1 (zc_X9_ten l D cI cZ e (by omega)) zm873 zm874 zm39 zm875 zd_X9_ten ⟨Nat.le_of_ble_eq_true rfl, Nat.le_of_ble_eq_true rfl⟩ ⟨Nat.zero_le _, Nat.zero_le _⟩ [] rfl (by decide) (fun _ => rfl) rfl (Nat.le_of_ble_eq_true rfl) rfl dX9_dayOf_157 (fun r_24 u H locs h_25 hP hD hS => ?_)
                have hP : va_P D vwCl [(M, .inr (9, [.int th, .ref mtx, .int (nI len), .int (nI pl), .int (nI q5), .int (nI r5), .int (nI s5), .ref mod_, .int (nI n), .ref mne, .ref mro, .int (nI m), .int rrt, .int rfr, .int rpr, .ref mrod, .int (nI rn9), .ref mrne, .ref mrro, .int (nI rm9), .ref mrp, .ref mpg, .ref mbk, .int (nI ac), .ref mke, .ref mik, .int (nI cr), .ref mrw, .ref mrd, .long sd, .ref mtr, .ref mwo, .ref mnx, .int jr])), (mod_, .inl (cI, 4, .inl od)), (mpg, .inl (cI, 36, .inl g)), (mtr, .inl (cI, 36, .inl t)), (mnx, .inl (cI, 64, .inl nx))] H := hP
                have hD : va_D A [(M, .inr (9, [.int th, .ref mtx, .int (nI len), .int (nI pl), .int (nI q5), .int (nI r5), .int (nI s5), .ref mod_, .int (nI n), .ref mne, .ref mro, .int (nI m), .int rrt, .int rfr, .int rpr, .ref mrod, .int (nI rn9), .ref mrne, .ref mrro, .int (nI rm9), .ref mrp, .ref mpg, .ref mbk, .int (nI ac), .ref mke, .ref mik, .int (nI cr), .ref mrw, .ref mrd, .long sd, .ref mtr, .ref mwo, .ref mnx, .int jr])), (mod_, .inl (cI, 4, .inl od)), (mpg, .inl (cI, 36, .inl g)), (mtr, .inl (cI, 36, .inl t)), (mnx, .inl (cI, 64, .inl nx))] := hD
                have h_25 : r_24 = nI (10 ^ e) := h_25
                subst h_25
                refine lv_imul hx hb dX9_dayOf_160 ?_
                refine z_top (y := ((nI q5) * (zsu (t k) (zdc (Ep (25 + p)) j) (Ep (30 + p)) (nI k) (nI r5))) * (nI (10 ^ e))) rfl ?_
                refine lv_iload_n hx hb dX9_dayOf_161 rfl (lv_at hl 10 rfl) ?_
                refine lv_iconst (v := nI 1) hx hb dX9_dayOf_162 (by decide) ?_
                refine lv_icmp_ne (tgt := 170) hx hb dX9_dayOf_163 (by decide) (fun c_26 => ?_) (fun c_26 => ?_)
                · have c_26 := zne (i := e + 1) (j := 1) c_26
                  refine lv_aload_n hx hb dX9_dayOf_170 rfl (lv_at hl 7 rfl) ?_
                  refine z_get (ci := 9) (v := .ref mnx) Z zin9 hP 0 rfl rfl 32 (by decide) zm709 rfl rfl dX9_dayOf_171 ?_
                  refine lv_iconst (v := nI 4) hx hb dX9_dayOf_174 (by decide) ?_
                  refine lv_iload hx hb dX9_dayOf_175 (lv_at hl 11 rfl) ?_
                  refine lv_imul hx hb dX9_dayOf_177 ?_
                  refine z_top (y := nI (4 * w)) (z_mul _ _) ?_
                  refine lv_iload hx hb dX9_dayOf_178 (lv_at hl 1 rfl) ?_
                  refine lv_iadd hx hb dX9_dayOf_180 ?_
                  refine z_top (y := nI (4 * w + k)) (z_add _ _) ?_
                  refine z_iald (n := 64) (f := nx) (j := 4 * w + k) Z hP 4 rfl (by omega) (by decide) dX9_dayOf_181 ?_
                  refine lv_iadd hx hb dX9_dayOf_182 ?_
                  refine z_top (y := (((nI q5) * (zsu (t k) (zdc (Ep (25 + p)) j) (Ep (30 + p)) (nI k) (nI r5))) * (nI (10 ^ e))) + (nx (4 * w + k))) rfl ?_
                  refine lv_imul hx hb dX9_dayOf_183 ?_
                  refine z_top (y := (od k) * ((((nI q5) * (zsu (t k) (zdc (Ep (25 + p)) j) (Ep (30 + p)) (nI k) (nI r5))) * (nI (10 ^ e))) + (nx (4 * w + k)))) rfl ?_
                  refine lv_iadd hx hb dX9_dayOf_184 ?_
                  refine z_top (y := (zdy od t (nI q5) (nI r5) (Ep (30 + p)) (nI (10 ^ e)) (zba (nI s5) (e + 1) j) (zdc (Ep (25 + p)) j) (fun zk_ => if e + 1 = 1 then 0 else nx (4 * w + zk_)) k) + ((od k) * ((((nI q5) * (zsu (t k) (zdc (Ep (25 + p)) j) (Ep (30 + p)) (nI k) (nI r5))) * (nI (10 ^ e))) + (nx (4 * w + k))))) rfl ?_
                  refine lv_istore (lv' := [(9, .int ((zdy od t (nI q5) (nI r5) (Ep (30 + p)) (nI (10 ^ e)) (zba (nI s5) (e + 1) j) (zdc (Ep (25 + p)) j) (fun zk_ => if e + 1 = 1 then 0 else nx (4 * w + zk_)) k) + ((od k) * ((((nI q5) * (zsu (t k) (zdc (Ep (25 + p)) j) (Ep (30 + p)) (nI k) (nI r5))) * (nI (10 ^ e))) + (nx (4 * w + k)))))), (11, .int ((nI q5) * (zsu (t k) (zdc (Ep (25 + p)) j) (Ep (30 + p)) (nI k) (nI r5)))), (10, .int (nI k)), (8, .int (zdv j)), (7, .int (zLe Ep od (nI q5) (nI r5) (nI s5) p (nI (10 ^ e)) (nI cn) j)), (6, .int (Ep (30 + p))), (5, .int (Ep (25 + p))), (0, .ref M), (1, .int (nI p)), (2, .int (nI dy)), (3, .int (nI (e + 1))), (4, .int (nI w))]) hx hb dX9_dayOf_185 hl (by decide) rfl (fun ls hl => ?_)
                  refine lv_iinc (v := nI (k + 1)) (lv' := [(10, .int (nI (k + 1))), (9, .int ((zdy od t (nI q5) (nI r5) (Ep (30 + p)) (nI (10 ^ e)) (zba (nI s5) (e + 1) j) (zdc (Ep (25 + p)) j) (fun zk_ => if e + 1 = 1 then 0 else nx (4 * w + zk_)) k) + ((od k) * ((((nI q5) * (zsu (t k) (zdc (Ep (25 + p)) j) (Ep (30 + p)) (nI k) (nI r5))) * (nI (10 ^ e))) + (nx (4 * w + k)))))), (11, .int ((nI q5) * (zsu (t k) (zdc (Ep (25 + p)) j) (Ep (30 + p)) (nI k) (nI r5)))), (8, .int (zdv j)), (7, .int (zLe Ep od (nI q5) (nI r5) (nI s5) p (nI (10 ^ e)) (nI cn) j)), (6, .int (Ep (30 + p))), (5, .int (Ep (25 + p))), (0, .ref M), (1, .int (nI p)), (2, .int (nI dy)), (3, .int (nI (e + 1))), (4, .int (nI w))]) hx hb dX9_dayOf_187 hl (k := 2) rfl (z_inc _ 1) (by decide) rfl (fun ls hl => ?_)
                  refine lv_goto (tgt := 98) hx hb dX9_dayOf_190 (by decide) ?_
                  have hl : lv_has ls 12 [(10, .int (nI (k + 1))), (9, .int ((zdy od t (nI q5) (nI r5) (Ep (30 + p)) (nI (10 ^ e)) (zba (nI s5) (e + 1) j) (zdc (Ep (25 + p)) j) (fun zk_ => if e + 1 = 1 then 0 else nx (4 * w + zk_)) k) + ((od k) * ((((nI q5) * (zsu (t k) (zdc (Ep (25 + p)) j) (Ep (30 + p)) (nI k) (nI r5))) * (nI (10 ^ e))) + (nx (4 * w + k)))))), (8, .int (zdv j)), (7, .int (zLe Ep od (nI q5) (nI r5) (nI s5) p (nI (10 ^ e)) (nI cn) j)), (6, .int (Ep (30 + p))), (5, .int (Ep (25 + p))), (0, .ref M), (1, .int (nI p)), (2, .int (nI dy)), (3, .int (nI (e + 1))), (4, .int (nI w))] := lv_sub hl [0, 1, 3, 4, 5, 6, 7, 8, 9, 10, 11] rfl
                  have e_27 : (zdy od t (nI q5) (nI r5) (Ep (30 + p)) (nI (10 ^ e)) (zba (nI s5) (e + 1) j) (zdc (Ep (25 + p)) j) (fun zk_ => if e + 1 = 1 then 0 else nx (4 * w + zk_)) k) + ((od k) * ((((nI q5) * (zsu (t k) (zdc (Ep (25 + p)) j) (Ep (30 + p)) (nI k) (nI r5))) * (nI (10 ^ e))) + (nx (4 * w + k)))) = zdy od t (nI q5) (nI r5) (Ep (30 + p)) (nI (10 ^ e)) (zba (nI s5) (e + 1) j) (zdc (Ep (25 + p)) j) (fun zk_ => if e + 1 = 1 then 0 else nx (4 * w + zk_)) (k + 1) := by first | exact zdy_a (by assumption) | exact zdy_b (by assumption)
                  have hl : lv_has ls 12 [(10, .int (nI (k + 1))), (9, .int (zdy od t (nI q5) (nI r5) (Ep (30 + p)) (nI (10 ^ e)) (zba (nI s5) (e + 1) j) (zdc (Ep (25 + p)) j) (fun zk_ => if e + 1 = 1 then 0 else nx (4 * w + zk_)) (k + 1))), (8, .int (zdv j)), (7, .int (zLe Ep od (nI q5) (nI r5) (nI s5) p (nI (10 ^ e)) (nI cn) j)), (6, .int (Ep (30 + p))), (5, .int (Ep (25 + p))), (0, .ref M), (1, .int (nI p)), (2, .int (nI dy)), (3, .int (nI (e + 1))), (4, .int (nI w))] := Eq.subst (motive := fun zz_ => lv_has ls 12 [(10, .int (nI (k + 1))), (9, .int zz_), (8, .int (zdv j)), (7, .int (zLe Ep od (nI q5) (nI r5) (nI s5) p (nI (10 ^ e)) (nI cn) j)), (6, .int (Ep (30 + p))), (5, .int (Ep (25 + p))), (0, .ref M), (1, .int (nI p)), (2, .int (nI dy)), (3, .int (nI (e + 1))), (4, .int (nI w))]) e_27 hl
                  exact ih_9 _ _ _ (by omega) ⟨hP, hD, hS, hl⟩
                · have c_26 := zeq (i := e + 1) (j := 1) (by omega) (by decide) c_26
                  refine lv_iconst (v := nI 0) hx hb dX9_dayOf_166 (by decide) ?_
                  refine lv_goto (tgt := 182) hx hb dX9_dayOf_167 (by decide) ?_
                  refine lv_iadd hx hb dX9_dayOf_182 ?_
                  refine z_top (y := (((nI q5) * (zsu (t k) (zdc (Ep (25 + p)) j) (Ep (30 + p)) (nI k) (nI r5))) * (nI (10 ^ e))) + 0) rfl ?_
                  refine lv_imul hx hb dX9_dayOf_183 ?_
                  refine z_top (y := (od k) * ((((nI q5) * (zsu (t k) (zdc (Ep (25 + p)) j) (Ep (30 + p)) (nI k) (nI r5))) * (nI (10 ^ e))) + 0)) rfl ?_
                  refine lv_iadd hx hb dX9_dayOf_184 ?_
                  refine z_top (y := (zdy od t (nI q5) (nI r5) (Ep (30 + p)) (nI (10 ^ e)) (zba (nI s5) (e + 1) j) (zdc (Ep (25 + p)) j) (fun zk_ => if e + 1 = 1 then 0 else nx (4 * w + zk_)) k) + ((od k) * ((((nI q5) * (zsu (t k) (zdc (Ep (25 + p)) j) (Ep (30 + p)) (nI k) (nI r5))) * (nI (10 ^ e))) + 0))) rfl ?_
                  refine lv_istore (lv' := [(9, .int ((zdy od t (nI q5) (nI r5) (Ep (30 + p)) (nI (10 ^ e)) (zba (nI s5) (e + 1) j) (zdc (Ep (25 + p)) j) (fun zk_ => if e + 1 = 1 then 0 else nx (4 * w + zk_)) k) + ((od k) * ((((nI q5) * (zsu (t k) (zdc (Ep (25 + p)) j) (Ep (30 + p)) (nI k) (nI r5))) * (nI (10 ^ e))) + 0)))), (11, .int ((nI q5) * (zsu (t k) (zdc (Ep (25 + p)) j) (Ep (30 + p)) (nI k) (nI r5)))), (10, .int (nI k)), (8, .int (zdv j)), (7, .int (zLe Ep od (nI q5) (nI r5) (nI s5) p (nI (10 ^ e)) (nI cn) j)), (6, .int (Ep (30 + p))), (5, .int (Ep (25 + p))), (0, .ref M), (1, .int (nI p)), (2, .int (nI dy)), (3, .int (nI (e + 1))), (4, .int (nI w))]) hx hb dX9_dayOf_185 hl (by decide) rfl (fun ls hl => ?_)
                  refine lv_iinc (v := nI (k + 1)) (lv' := [(10, .int (nI (k + 1))), (9, .int ((zdy od t (nI q5) (nI r5) (Ep (30 + p)) (nI (10 ^ e)) (zba (nI s5) (e + 1) j) (zdc (Ep (25 + p)) j) (fun zk_ => if e + 1 = 1 then 0 else nx (4 * w + zk_)) k) + ((od k) * ((((nI q5) * (zsu (t k) (zdc (Ep (25 + p)) j) (Ep (30 + p)) (nI k) (nI r5))) * (nI (10 ^ e))) + 0)))), (11, .int ((nI q5) * (zsu (t k) (zdc (Ep (25 + p)) j) (Ep (30 + p)) (nI k) (nI r5)))), (8, .int (zdv j)), (7, .int (zLe Ep od (nI q5) (nI r5) (nI s5) p (nI (10 ^ e)) (nI cn) j)), (6, .int (Ep (30 + p))), (5, .int (Ep (25 + p))), (0, .ref M), (1, .int (nI p)), (2, .int (nI dy)), (3, .int (nI (e + 1))), (4, .int (nI w))]) hx hb dX9_dayOf_187 hl (k := 2) rfl (z_inc _ 1) (by decide) rfl (fun ls hl => ?_)
                  refine lv_goto (tgt := 98) hx hb dX9_dayOf_190 (by decide) ?_
                  have hl : lv_has ls 12 [(10, .int (nI (k + 1))), (9, .int ((zdy od t (nI q5) (nI r5) (Ep (30 + p)) (nI (10 ^ e)) (zba (nI s5) (e + 1) j) (zdc (Ep (25 + p)) j) (fun zk_ => if e + 1 = 1 then 0 else nx (4 * w + zk_)) k) + ((od k) * ((((nI q5) * (zsu (t k) (zdc (Ep (25 + p)) j) (Ep (30 + p)) (nI k) (nI r5))) * (nI (10 ^ e))) + 0)))), (8, .int (zdv j)), (7, .int (zLe Ep od (nI q5) (nI r5) (nI s5) p (nI (10 ^ e)) (nI cn) j)), (6, .int (Ep (30 + p))), (5, .int (Ep (25 + p))), (0, .ref M), (1, .int (nI p)), (2, .int (nI dy)), (3, .int (nI (e + 1))), (4, .int (nI w))] := lv_sub hl [0, 1, 3, 4, 5, 6, 7, 8, 9, 10, 11] rfl
                  have e_28 : (zdy od t (nI q5) (nI r5) (Ep (30 + p)) (nI (10 ^ e)) (zba (nI s5) (e + 1) j) (zdc (Ep (25 + p)) j) (fun zk_ => if e + 1 = 1 then 0 else nx (4 * w + zk_)) k) + ((od k) * ((((nI q5) * (zsu (t k) (zdc (Ep (25 + p)) j) (Ep (30 + p)) (nI k) (nI r5))) * (nI (10 ^ e))) + 0)) = zdy od t (nI q5) (nI r5) (Ep (30 + p)) (nI (10 ^ e)) (zba (nI s5) (e + 1) j) (zdc (Ep (25 + p)) j) (fun zk_ => if e + 1 = 1 then 0 else nx (4 * w + zk_)) (k + 1) := by first | exact zdy_a (by assumption) | exact zdy_b (by assumption)
                  have hl : lv_has ls 12 [(10, .int (nI (k + 1))), (9, .int (zdy od t (nI q5) (nI r5) (Ep (30 + p)) (nI (10 ^ e)) (zba (nI s5) (e + 1) j) (zdc (Ep (25 + p)) j) (fun zk_ => if e + 1 = 1 then 0 else nx (4 * w + zk_)) (k + 1))), (8, .int (zdv j)), (7, .int (zLe Ep od (nI q5) (nI r5) (nI s5) p (nI (10 ^ e)) (nI cn) j)), (6, .int (Ep (30 + p))), (5, .int (Ep (25 + p))), (0, .ref M), (1, .int (nI p)), (2, .int (nI dy)), (3, .int (nI (e + 1))), (4, .int (nI w))] := Eq.subst (motive := fun zz_ => lv_has ls 12 [(10, .int (nI (k + 1))), (9, .int zz_), (8, .int (zdv j)), (7, .int (zLe Ep od (nI q5) (nI r5) (nI s5) p (nI (10 ^ e)) (nI cn) j)), (6, .int (Ep (30 + p))), (5, .int (Ep (25 + p))), (0, .ref M), (1, .int (nI p)), (2, .int (nI dy)), (3, .int (nI (e + 1))), (4, .int (nI w))]) e_28 hl
                  exact ih_9 _ _ _ (by omega) ⟨hP, hD, hS, hl⟩
              · skip
                refine lv_iload hx hb dX9_dayOf_117 (lv_at hl 2 rfl) ?_
                refine lv_bipush (v := -9) hx hb dX9_dayOf_119 (by decide) ?_
                refine lv_icmp_ne (tgt := 129) hx hb dX9_dayOf_121 (by decide) (fun c_29 => ?_) (fun c_29 => ?_)
                · have c_29 : ¬ ((zdv j) = (-9)) := c_29
                  refine lv_iload hx hb dX9_dayOf_129 (lv_at hl 2 rfl) ?_
                  have hl : lv_has ls 12 [(10, .int (nI k)), (9, .int (zdy od t (nI q5) (nI r5) (Ep (30 + p)) (nI (10 ^ e)) (zba (nI s5) (e + 1) j) (zdc (Ep (25 + p)) j) (fun zk_ => if e + 1 = 1 then 0 else nx (4 * w + zk_)) k)), (8, .int (zdv j)), (7, .int (zLe Ep od (nI q5) (nI r5) (nI s5) p (nI (10 ^ e)) (nI cn) j)), (6, .int (Ep (30 + p))), (5, .int (Ep (25 + p))), (0, .ref M), (1, .int (nI p)), (2, .int (nI dy)), (3, .int (nI (e + 1))), (4, .int (nI w))] := lv_sub hl [0, 1, 2, 3, 4, 5, 6, 7, 8, 9, 10] rfl
                  refine z_top (y := zdc (Ep (25 + p)) j) (by first | exact zdc_a (by omega) (by assumption) | exact zdc_b (by assumption)) ?_
                  exact k_21 _ _ _ ⟨hP, hD, hS, hl⟩
                · have c_29 : (zdv j) = (-9) := c_29
                  refine lv_iload hx hb dX9_dayOf_124 (lv_at hl 5 rfl) ?_
                  refine lv_goto (tgt := 131) hx hb dX9_dayOf_126 (by decide) ?_
                  have hl : lv_has ls 12 [(10, .int (nI k)), (9, .int (zdy od t (nI q5) (nI r5) (Ep (30 + p)) (nI (10 ^ e)) (zba (nI s5) (e + 1) j) (zdc (Ep (25 + p)) j) (fun zk_ => if e + 1 = 1 then 0 else nx (4 * w + zk_)) k)), (8, .int (zdv j)), (7, .int (zLe Ep od (nI q5) (nI r5) (nI s5) p (nI (10 ^ e)) (nI cn) j)), (6, .int (Ep (30 + p))), (5, .int (Ep (25 + p))), (0, .ref M), (1, .int (nI p)), (2, .int (nI dy)), (3, .int (nI (e + 1))), (4, .int (nI w))] := lv_sub hl [0, 1, 2, 3, 4, 5, 6, 7, 8, 9, 10] rfl
                  refine z_top (y := zdc (Ep (25 + p)) j) (by first | exact zdc_a (by omega) (by assumption) | exact zdc_b (by assumption)) ?_
                  exact k_21 _ _ _ ⟨hP, hD, hS, hl⟩
          · skip
            refine lv_iload hx hb dX9_dayOf_73 (lv_at hl 0 rfl) ?_
            refine lv_bipush (v := -9) hx hb dX9_dayOf_75 (by decide) ?_
            refine lv_icmp_ne (tgt := 84) hx hb dX9_dayOf_77 (by decide) (fun c_30 => ?_) (fun c_30 => ?_)
            · have c_30 : ¬ ((zdv j) = (-9)) := c_30
              refine lv_aload_n hx hb dX9_dayOf_84 rfl (lv_at hl 4 rfl) ?_
              refine z_get (ci := 9) (v := .int (nI s5)) Z zin9 hP 0 rfl rfl 6 (by decide) zm683 rfl rfl dX9_dayOf_85 ?_
              refine lv_iload_n hx hb dX9_dayOf_88 rfl (lv_at hl 7 rfl) ?_
              refine z_callSi (As := [.int (nI (e + 1))]) (rest := [.int (nI s5)]) Z hP hD hS hl.1 (zc_X9_ten l D cI cZ (e + 1) (by omega)) zm873 zm874 zm39 zm875 zd_X9_ten ⟨Nat.le_of_ble_eq_true rfl, Nat.le_of_ble_eq_true rfl⟩ ⟨Nat.zero_le _, Nat.zero_le _⟩ [] rfl (by decide) (fun _ => rfl) rfl (Nat.le_of_ble_eq_true rfl) rfl dX9_dayOf_89 (fun r_31 u H locs h_32 hP hD hS => ?_)
              have hP : va_P D vwCl [(M, .inr (9, [.int th, .ref mtx, .int (nI len), .int (nI pl), .int (nI q5), .int (nI r5), .int (nI s5), .ref mod_, .int (nI n), .ref mne, .ref mro, .int (nI m), .int rrt, .int rfr, .int rpr, .ref mrod, .int (nI rn9), .ref mrne, .ref mrro, .int (nI rm9), .ref mrp, .ref mpg, .ref mbk, .int (nI ac), .ref mke, .ref mik, .int (nI cr), .ref mrw, .ref mrd, .long sd, .ref mtr, .ref mwo, .ref mnx, .int jr])), (mod_, .inl (cI, 4, .inl od)), (mpg, .inl (cI, 36, .inl g)), (mtr, .inl (cI, 36, .inl t)), (mnx, .inl (cI, 64, .inl nx))] H := hP
              have hD : va_D A [(M, .inr (9, [.int th, .ref mtx, .int (nI len), .int (nI pl), .int (nI q5), .int (nI r5), .int (nI s5), .ref mod_, .int (nI n), .ref mne, .ref mro, .int (nI m), .int rrt, .int rfr, .int rpr, .ref mrod, .int (nI rn9), .ref mrne, .ref mrro, .int (nI rm9), .ref mrp, .ref mpg, .ref mbk, .int (nI ac), .ref mke, .ref mik, .int (nI cr), .ref mrw, .ref mrd, .long sd, .ref mtr, .ref mwo, .ref mnx, .int jr])), (mod_, .inl (cI, 4, .inl od)), (mpg, .inl (cI, 36, .inl g)), (mtr, .inl (cI, 36, .inl t)), (mnx, .inl (cI, 64, .inl nx))] := hD
              have h_32 : r_31 = nI (10 ^ (e + 1)) := h_32
              subst h_32
              refine lv_imul hx hb dX9_dayOf_92 ?_
              refine z_top (y := (nI s5) * (nI (10 ^ (e + 1)))) rfl ?_
              have hl : lv_has ls 12 [(8, .int (zdv j)), (7, .int (zLe Ep od (nI q5) (nI r5) (nI s5) p (nI (10 ^ e)) (nI cn) j)), (6, .int (Ep (30 + p))), (5, .int (Ep (25 + p))), (0, .ref M), (1, .int (nI p)), (2, .int (nI dy)), (3, .int (nI (e + 1))), (4, .int (nI w))] := lv_sub hl [0, 1, 2, 3, 4, 5, 6, 7, 8] rfl
              refine z_top (y := zba (nI s5) (e + 1) j) (by first | exact zba_a (by omega) (by assumption) | exact zba_b (by assumption)) ?_
              exact k_8 _ _ _ ⟨hP, hD, hS, hl⟩
            · have c_30 : (zdv j) = (-9) := c_30
              refine lv_iconst (v := nI 0) hx hb dX9_dayOf_80 (by decide) ?_
              refine lv_goto (tgt := 93) hx hb dX9_dayOf_81 (by decide) ?_
              have hl : lv_has ls 12 [(8, .int (zdv j)), (7, .int (zLe Ep od (nI q5) (nI r5) (nI s5) p (nI (10 ^ e)) (nI cn) j)), (6, .int (Ep (30 + p))), (5, .int (Ep (25 + p))), (0, .ref M), (1, .int (nI p)), (2, .int (nI dy)), (3, .int (nI (e + 1))), (4, .int (nI w))] := lv_sub hl [0, 1, 2, 3, 4, 5, 6, 7, 8] rfl
              refine z_top (y := zba (nI s5) (e + 1) j) (by first | exact zba_a (by omega) (by assumption) | exact zba_b (by assumption)) ?_
              exact k_8 _ _ _ ⟨hP, hD, hS, hl⟩
        · skip
          refine lv_iload hx hb dX9_dayOf_59 (lv_at hl 0 rfl) ?_
          refine lv_bipush (v := -9) hx hb dX9_dayOf_61 (by decide) ?_
          refine lv_icmp_eq (tgt := 73) hx hb dX9_dayOf_63 (by decide) (fun c_33 => ?_) (fun c_33 => ?_)
          · have c_33 : (zdv j) = (-9) := c_33
            have hl : lv_has ls 12 [(8, .int (zdv j)), (7, .int (zLe Ep od (nI q5) (nI r5) (nI s5) p (nI (10 ^ e)) (nI cn) j)), (6, .int (Ep (30 + p))), (5, .int (Ep (25 + p))), (0, .ref M), (1, .int (nI p)), (2, .int (nI dy)), (3, .int (nI (e + 1))), (4, .int (nI w))] := lv_sub hl [0, 1, 2, 3, 4, 5, 6, 7, 8] rfl
            exact k_7 _ _ _ ⟨hP, hD, hS, hl, (by first | exact Or.inl (by assumption) | exact Or.inr (by assumption))⟩
          · have c_33 : ¬ ((zdv j) = (-9)) := c_33
            refine lv_iload hx hb dX9_dayOf_66 (lv_at hl 3 rfl) ?_
            refine lv_bipush (v := -9) hx hb dX9_dayOf_68 (by decide) ?_
            refine lv_icmp_ne (tgt := 216) hx hb dX9_dayOf_70 (by decide) (fun c_34 => ?_) (fun c_34 => ?_)
            · have c_34 : ¬ ((Ep (25 + p)) = (-9)) := c_34
              refine lv_iload hx hb dX9_dayOf_216 (lv_at hl 0 rfl) ?_
              refine lv_bipush (v := -9) hx hb dX9_dayOf_218 (by decide) ?_
              refine lv_icmp_ne (tgt := 227) hx hb dX9_dayOf_220 (by decide) (fun c_35 => ?_) (fun c_35 => ?_)
              · have c_35 : ¬ ((zdv j) = (-9)) := c_35
                refine lv_iload hx hb dX9_dayOf_227 (lv_at hl 0 rfl) ?_
                refine lv_iconst (v := nI 1) hx hb dX9_dayOf_229 (by decide) ?_
                refine lv_iadd hx hb dX9_dayOf_230 ?_
                refine z_top (y := (zdv j) + 1) rfl ?_
                refine lv_istore (lv' := [(8, .int ((zdv j) + 1)), (7, .int (zLe Ep od (nI q5) (nI r5) (nI s5) p (nI (10 ^ e)) (nI cn) j)), (6, .int (Ep (30 + p))), (5, .int (Ep (25 + p))), (0, .ref M), (1, .int (nI p)), (2, .int (nI dy)), (3, .int (nI (e + 1))), (4, .int (nI w))]) hx hb dX9_dayOf_231 hl (by decide) rfl (fun ls hl => ?_)
                refine lv_goto (tgt := 53) hx hb dX9_dayOf_233 (by decide) ?_
                have hl : lv_has ls 12 [(8, .int ((zdv j) + 1)), (7, .int (zLe Ep od (nI q5) (nI r5) (nI s5) p (nI (10 ^ e)) (nI cn) j)), (6, .int (Ep (30 + p))), (5, .int (Ep (25 + p))), (0, .ref M), (1, .int (nI p)), (2, .int (nI dy)), (3, .int (nI (e + 1))), (4, .int (nI w))] := lv_sub hl [0, 1, 2, 3, 4, 5, 6, 7, 8] rfl
                have e_36 : (zdv j) + 1 = zdv (j + 1) := by first | exact zdv_a j hj5 (by assumption) | exact zdv_b j hj5 (by assumption) | exact zLe_k (zdv_n (by assumption)) (by assumption)
                have hl : lv_has ls 12 [(8, .int (zdv (j + 1))), (7, .int (zLe Ep od (nI q5) (nI r5) (nI s5) p (nI (10 ^ e)) (nI cn) j)), (6, .int (Ep (30 + p))), (5, .int (Ep (25 + p))), (0, .ref M), (1, .int (nI p)), (2, .int (nI dy)), (3, .int (nI (e + 1))), (4, .int (nI w))] := Eq.subst (motive := fun zz_ => lv_has ls 12 [(8, .int zz_), (7, .int (zLe Ep od (nI q5) (nI r5) (nI s5) p (nI (10 ^ e)) (nI cn) j)), (6, .int (Ep (30 + p))), (5, .int (Ep (25 + p))), (0, .ref M), (1, .int (nI p)), (2, .int (nI dy)), (3, .int (nI (e + 1))), (4, .int (nI w))]) e_36 hl
                have e_37 : zLe Ep od (nI q5) (nI r5) (nI s5) p (nI (10 ^ e)) (nI cn) j = zLe Ep od (nI q5) (nI r5) (nI s5) p (nI (10 ^ e)) (nI cn) (j + 1) := by first | exact zdv_a j hj5 (by assumption) | exact zdv_b j hj5 (by assumption) | exact zLe_k (zdv_n (by assumption)) (by assumption)
                have hl : lv_has ls 12 [(8, .int (zdv (j + 1))), (7, .int (zLe Ep od (nI q5) (nI r5) (nI s5) p (nI (10 ^ e)) (nI cn) (j + 1))), (6, .int (Ep (30 + p))), (5, .int (Ep (25 + p))), (0, .ref M), (1, .int (nI p)), (2, .int (nI dy)), (3, .int (nI (e + 1))), (4, .int (nI w))] := Eq.subst (motive := fun zz_ => lv_has ls 12 [(8, .int (zdv (j + 1))), (7, .int zz_), (6, .int (Ep (30 + p))), (5, .int (Ep (25 + p))), (0, .ref M), (1, .int (nI p)), (2, .int (nI dy)), (3, .int (nI (e + 1))), (4, .int (nI w))]) e_37 hl
                exact ih_3 _ _ _ (by omega) ⟨hP, hD, hS, hl⟩
              · have c_35 : (zdv j) = (-9) := c_35
                refine lv_iconst (v := nI 0) hx hb dX9_dayOf_223 (by decide) ?_
                refine lv_goto (tgt := 231) hx hb dX9_dayOf_224 (by decide) ?_
                refine lv_istore (lv' := [(8, .int (nI 0)), (7, .int (zLe Ep od (nI q5) (nI r5) (nI s5) p (nI (10 ^ e)) (nI cn) j)), (6, .int (Ep (30 + p))), (5, .int (Ep (25 + p))), (0, .ref M), (1, .int (nI p)), (2, .int (nI dy)), (3, .int (nI (e + 1))), (4, .int (nI w))]) hx hb dX9_dayOf_231 hl (by decide) rfl (fun ls hl => ?_)
                refine lv_goto (tgt := 53) hx hb dX9_dayOf_233 (by decide) ?_
                have hl : lv_has ls 12 [(8, .int (nI 0)), (7, .int (zLe Ep od (nI q5) (nI r5) (nI s5) p (nI (10 ^ e)) (nI cn) j)), (6, .int (Ep (30 + p))), (5, .int (Ep (25 + p))), (0, .ref M), (1, .int (nI p)), (2, .int (nI dy)), (3, .int (nI (e + 1))), (4, .int (nI w))] := lv_sub hl [0, 1, 2, 3, 4, 5, 6, 7, 8] rfl
                have e_38 : nI 0 = zdv (j + 1) := by first | exact zdv_a j hj5 (by assumption) | exact zdv_b j hj5 (by assumption) | exact zLe_k (zdv_n (by assumption)) (by assumption)
                have hl : lv_has ls 12 [(8, .int (zdv (j + 1))), (7, .int (zLe Ep od (nI q5) (nI r5) (nI s5) p (nI (10 ^ e)) (nI cn) j)), (6, .int (Ep (30 + p))), (5, .int (Ep (25 + p))), (0, .ref M), (1, .int (nI p)), (2, .int (nI dy)), (3, .int (nI (e + 1))), (4, .int (nI w))] := Eq.subst (motive := fun zz_ => lv_has ls 12 [(8, .int zz_), (7, .int (zLe Ep od (nI q5) (nI r5) (nI s5) p (nI (10 ^ e)) (nI cn) j)), (6, .int (Ep (30 + p))), (5, .int (Ep (25 + p))), (0, .ref M), (1, .int (nI p)), (2, .int (nI dy)), (3, .int (nI (e + 1))), (4, .int (nI w))]) e_38 hl
                have e_39 : zLe Ep od (nI q5) (nI r5) (nI s5) p (nI (10 ^ e)) (nI cn) j = zLe Ep od (nI q5) (nI r5) (nI s5) p (nI (10 ^ e)) (nI cn) (j + 1) := by first | exact zdv_a j hj5 (by assumption) | exact zdv_b j hj5 (by assumption) | exact zLe_k (zdv_n (by assumption)) (by assumption)
                have hl : lv_has ls 12 [(8, .int (zdv (j + 1))), (7, .int (zLe Ep od (nI q5) (nI r5) (nI s5) p (nI (10 ^ e)) (nI cn) (j + 1))), (6, .int (Ep (30 + p))), (5, .int (Ep (25 + p))), (0, .ref M), (1, .int (nI p)), (2, .int (nI dy)), (3, .int (nI (e + 1))), (4, .int (nI w))] := Eq.subst (motive := fun zz_ => lv_has ls 12 [(8, .int (zdv (j + 1))), (7, .int zz_), (6, .int (Ep (30 + p))), (5, .int (Ep (25 + p))), (0, .ref M), (1, .int (nI p)), (2, .int (nI dy)), (3, .int (nI (e + 1))), (4, .int (nI w))]) e_39 hl
                exact ih_3 _ _ _ (by omega) ⟨hP, hD, hS, hl⟩
            · have c_34 : (Ep (25 + p)) = (-9) := c_34
              have hl : lv_has ls 12 [(8, .int (zdv j)), (7, .int (zLe Ep od (nI q5) (nI r5) (nI s5) p (nI (10 ^ e)) (nI cn) j)), (6, .int (Ep (30 + p))), (5, .int (Ep (25 + p))), (0, .ref M), (1, .int (nI p)), (2, .int (nI dy)), (3, .int (nI (e + 1))), (4, .int (nI w))] := lv_sub hl [0, 1, 2, 3, 4, 5, 6, 7, 8] rfl
              exact k_7 _ _ _ ⟨hP, hD, hS, hl, (by first | exact Or.inl (by assumption) | exact Or.inr (by assumption))⟩
    · skip
      refine lv_iload_n hx hb dX9_dayOf_22 rfl (lv_at hl 3 rfl) ?_
      refine lv_if_ne (tgt := 41) hx hb dX9_dayOf_23 (by decide) (fun c_40 => ?_) (fun c_40 => ?_)
      · have c_40 := zne (i := dy) (j := 0) c_40
        refine lv_bipush (v := -9) hx hb dX9_dayOf_41 (by decide) ?_
        have hl : lv_has ls 12 [(5, .int (Ep (25 + p))), (0, .ref M), (1, .int (nI p)), (2, .int (nI dy)), (3, .int (nI (e + 1))), (4, .int (nI w))] := lv_sub hl [0, 1, 2, 3, 4, 5] rfl
        refine z_top (y := Ep (30 + p)) (by first | exact hhe (by assumption) | exact (hhe2 (by assumption)).symm) ?_
        exact k_2 _ _ _ ⟨hP, hD, hS, hl⟩
      · have c_40 := zeq (i := dy) (j := 0) (by omega) (by decide) c_40
        refine lv_aload_n hx hb dX9_dayOf_26 rfl (lv_at hl 1 rfl) ?_
        refine z_get (ci := 9) (v := .ref mpg) Z zin9 hP 0 rfl rfl 21 (by decide) zm698 rfl rfl dX9_dayOf_27 ?_
        refine lv_bipush (v := nI 7) hx hb dX9_dayOf_30 (by decide) ?_
        refine lv_iload_n hx hb dX9_dayOf_32 rfl (lv_at hl 2 rfl) ?_
        refine lv_imul hx hb dX9_dayOf_33 ?_
        refine z_top (y := nI (7 * p)) (z_mul _ _) ?_
        refine lv_bipush (v := nI 6) hx hb dX9_dayOf_34 (by decide) ?_
        refine lv_iadd hx hb dX9_dayOf_36 ?_
        refine z_top (y := nI (7 * p + 6)) (z_add _ _) ?_
        refine z_iald (n := 36) (f := g) (j := 7 * p + 6) Z hP 2 rfl (by omega) (by decide) dX9_dayOf_37 ?_
        refine lv_goto (tgt := 43) hx hb dX9_dayOf_38 (by decide) ?_
        have hl : lv_has ls 12 [(5, .int (Ep (25 + p))), (0, .ref M), (1, .int (nI p)), (2, .int (nI dy)), (3, .int (nI (e + 1))), (4, .int (nI w))] := lv_sub hl [0, 1, 2, 3, 4, 5] rfl
        refine z_top (y := Ep (30 + p)) (by first | exact hhe (by assumption) | exact (hhe2 (by assumption)).symm) ?_
        exact k_2 _ _ _ ⟨hP, hD, hS, hl⟩
  · skip
    refine lv_iload_n hx hb dX9_dayOf_0 rfl (lv_at hl 2 rfl) ?_
    refine lv_if_ne (tgt := 18) hx hb dX9_dayOf_1 (by decide) (fun c_41 => ?_) (fun c_41 => ?_)
    · have c_41 := zne (i := dy) (j := 0) c_41
      refine lv_bipush (v := -9) hx hb dX9_dayOf_18 (by decide) ?_
      have hl : lv_has ls 12 [(0, .ref M), (1, .int (nI p)), (2, .int (nI dy)), (3, .int (nI (e + 1))), (4, .int (nI w))] := lv_sub hl [0, 1, 2, 3, 4] rfl
      refine z_top (y := Ep (25 + p)) (by first | exact hdc (by assumption) | exact (hdc2 (by assumption)).symm) ?_
      exact k_1 _ _ _ ⟨hP, hD, hS, hl⟩
    · have c_41 := zeq (i := dy) (j := 0) (by omega) (by decide) c_41
      refine lv_aload_n hx hb dX9_dayOf_4 rfl (lv_at hl 0 rfl) ?_
      refine z_get (ci := 9) (v := .ref mpg) Z zin9 hP 0 rfl rfl 21 (by decide) zm698 rfl rfl dX9_dayOf_5 ?_
      refine lv_bipush (v := nI 7) hx hb dX9_dayOf_8 (by decide) ?_
      refine lv_iload_n hx hb dX9_dayOf_10 rfl (lv_at hl 1 rfl) ?_
      refine lv_imul hx hb dX9_dayOf_11 ?_
      refine z_top (y := nI (7 * p)) (z_mul _ _) ?_
      refine lv_iconst (v := nI 5) hx hb dX9_dayOf_12 (by decide) ?_
      refine lv_iadd hx hb dX9_dayOf_13 ?_
      refine z_top (y := nI (7 * p + 5)) (z_add _ _) ?_
      refine z_iald (n := 36) (f := g) (j := 7 * p + 5) Z hP 2 rfl (by omega) (by decide) dX9_dayOf_14 ?_
      refine lv_goto (tgt := 20) hx hb dX9_dayOf_15 (by decide) ?_
      have hl : lv_has ls 12 [(0, .ref M), (1, .int (nI p)), (2, .int (nI dy)), (3, .int (nI (e + 1))), (4, .int (nI w))] := lv_sub hl [0, 1, 2, 3, 4] rfl
      refine z_top (y := Ep (25 + p)) (by first | exact hdc (by assumption) | exact (hdc2 (by assumption)).symm) ?_
      exact k_1 _ _ _ ⟨hP, hD, hS, hl⟩

theorem dX9_least_0 : decode cX9_least 0 = .ok (.aload_n 0, 1) := by decide +kernel
theorem dX9_least_1 : decode cX9_least 1 = .ok (.iconst 0, 1) := by decide +kernel
theorem dX9_least_2 : decode cX9_least 2 = .ok (.putfield 62, 3) := by decide +kernel
theorem dX9_least_5 : decode cX9_least 5 = .ok (.aload_n 0, 1) := by decide +kernel
theorem dX9_least_6 : decode cX9_least 6 = .ok (.iload_n 1, 1) := by decide +kernel
theorem dX9_least_7 : decode cX9_least 7 = .ok (.invokevirtual 147, 3) := by decide +kernel
theorem dX9_least_10 : decode cX9_least 10 = .ok (.ifCond .eq 5, 3) := by decide +kernel
theorem dX9_least_13 : decode cX9_least 13 = .ok (.iconst (-1), 1) := by decide +kernel
theorem dX9_least_14 : decode cX9_least 14 = .ok (.ireturn, 1) := by decide +kernel
theorem dX9_least_15 : decode cX9_least 15 = .ok (.iload_n 2, 1) := by decide +kernel
theorem dX9_least_16 : decode cX9_least 16 = .ok (.i2l, 1) := by decide +kernel
theorem dX9_least_17 : decode cX9_least 17 = .ok (.lconst 1, 1) := by decide +kernel
theorem dX9_least_18 : decode cX9_least 18 = .ok (.ldc2_w 73, 3) := by decide +kernel
theorem dX9_least_21 : decode cX9_least 21 = .ok (.invokestatic 69, 3) := by decide +kernel
theorem dX9_least_24 : decode cX9_least 24 = .ok (.ifCond .ne 6, 3) := by decide +kernel
theorem dX9_least_27 : decode cX9_least 27 = .ok (.bipush (-2), 2) := by decide +kernel
theorem dX9_least_29 : decode cX9_least 29 = .ok (.ireturn, 1) := by decide +kernel
theorem dX9_least_30 : decode cX9_least 30 = .ok (.iload_n 2, 1) := by decide +kernel
theorem dX9_least_31 : decode cX9_least 31 = .ok (.iconst 1, 1) := by decide +kernel
theorem dX9_least_32 : decode cX9_least 32 = .ok (.isub, 1) := by decide +kernel
theorem dX9_least_33 : decode cX9_least 33 = .ok (.istore 4, 2) := by decide +kernel
theorem dX9_least_35 : decode cX9_least 35 = .ok (.iload 4, 2) := by decide +kernel
theorem dX9_least_37 : decode cX9_least 37 = .ok (.ifCond .lt 90, 3) := by decide +kernel
theorem dX9_least_40 : decode cX9_least 40 = .ok (.iconst 0, 1) := by decide +kernel
theorem dX9_least_41 : decode cX9_least 41 = .ok (.istore 5, 2) := by decide +kernel
theorem dX9_least_43 : decode cX9_least 43 = .ok (.iload 5, 2) := by decide +kernel
theorem dX9_least_45 : decode cX9_least 45 = .ok (.iload 4, 2) := by decide +kernel
theorem dX9_least_47 : decode cX9_least 47 = .ok (.invokestatic 187, 3) := by decide +kernel
theorem dX9_least_50 : decode cX9_least 50 = .ok (.if_icmp .ge 38, 3) := by decide +kernel
theorem dX9_least_53 : decode cX9_least 53 = .ok (.aload_n 0, 1) := by decide +kernel
theorem dX9_least_54 : decode cX9_least 54 = .ok (.iload_n 1, 1) := by decide +kernel
theorem dX9_least_55 : decode cX9_least 55 = .ok (.iload 4, 2) := by decide +kernel
theorem dX9_least_57 : decode cX9_least 57 = .ok (.iload 5, 2) := by decide +kernel
theorem dX9_least_59 : decode cX9_least 59 = .ok (.invokevirtual 193, 3) := by decide +kernel
theorem dX9_least_62 : decode cX9_least 62 = .ok (.aload_n 0, 1) := by decide +kernel
theorem dX9_least_63 : decode cX9_least 63 = .ok (.getfield 56, 3) := by decide +kernel
theorem dX9_least_66 : decode cX9_least 66 = .ok (.iload 5, 2) := by decide +kernel
theorem dX9_least_68 : decode cX9_least 68 = .ok (.aload_n 0, 1) := by decide +kernel
theorem dX9_least_69 : decode cX9_least 69 = .ok (.iload_n 1, 1) := by decide +kernel
theorem dX9_least_70 : decode cX9_least 70 = .ok (.iload 4, 2) := by decide +kernel
theorem dX9_least_72 : decode cX9_least 72 = .ok (.iload_n 2, 1) := by decide +kernel
theorem dX9_least_73 : decode cX9_least 73 = .ok (.iload 4, 2) := by decide +kernel
theorem dX9_least_75 : decode cX9_least 75 = .ok (.isub, 1) := by decide +kernel
theorem dX9_least_76 : decode cX9_least 76 = .ok (.iload 5, 2) := by decide +kernel
theorem dX9_least_78 : decode cX9_least 78 = .ok (.invokevirtual 197, 3) := by decide +kernel
theorem dX9_least_81 : decode cX9_least 81 = .ok (.iastore, 1) := by decide +kernel
theorem dX9_least_82 : decode cX9_least 82 = .ok (.iinc 5 1, 3) := by decide +kernel
theorem dX9_least_85 : decode cX9_least 85 = .ok (.goto (-42), 3) := by decide +kernel
theorem dX9_least_88 : decode cX9_least 88 = .ok (.iconst 0, 1) := by decide +kernel
theorem dX9_least_89 : decode cX9_least 89 = .ok (.istore 5, 2) := by decide +kernel
theorem dX9_least_91 : decode cX9_least 91 = .ok (.iload 5, 2) := by decide +kernel
theorem dX9_least_93 : decode cX9_least 93 = .ok (.iload 4, 2) := by decide +kernel
theorem dX9_least_95 : decode cX9_least 95 = .ok (.invokestatic 187, 3) := by decide +kernel
theorem dX9_least_98 : decode cX9_least 98 = .ok (.if_icmp .ge 23, 3) := by decide +kernel
theorem dX9_least_101 : decode cX9_least 101 = .ok (.aload_n 0, 1) := by decide +kernel
theorem dX9_least_102 : decode cX9_least 102 = .ok (.getfield 59, 3) := by decide +kernel
theorem dX9_least_105 : decode cX9_least 105 = .ok (.iload 5, 2) := by decide +kernel
theorem dX9_least_107 : decode cX9_least 107 = .ok (.aload_n 0, 1) := by decide +kernel
theorem dX9_least_108 : decode cX9_least 108 = .ok (.getfield 56, 3) := by decide +kernel
theorem dX9_least_111 : decode cX9_least 111 = .ok (.iload 5, 2) := by decide +kernel
theorem dX9_least_113 : decode cX9_least 113 = .ok (.iaload, 1) := by decide +kernel
theorem dX9_least_114 : decode cX9_least 114 = .ok (.iastore, 1) := by decide +kernel
theorem dX9_least_115 : decode cX9_least 115 = .ok (.iinc 5 1, 3) := by decide +kernel
theorem dX9_least_118 : decode cX9_least 118 = .ok (.goto (-27), 3) := by decide +kernel
theorem dX9_least_121 : decode cX9_least 121 = .ok (.iinc 4 (-1), 3) := by decide +kernel
theorem dX9_least_124 : decode cX9_least 124 = .ok (.goto (-89), 3) := by decide +kernel
theorem dX9_least_127 : decode cX9_least 127 = .ok (.aload_n 0, 1) := by decide +kernel
theorem dX9_least_128 : decode cX9_least 128 = .ok (.getfield 59, 3) := by decide +kernel
theorem dX9_least_131 : decode cX9_least 131 = .ok (.iconst 0, 1) := by decide +kernel
theorem dX9_least_132 : decode cX9_least 132 = .ok (.iaload, 1) := by decide +kernel
theorem dX9_least_133 : decode cX9_least 133 = .ok (.iload_n 2, 1) := by decide +kernel
theorem dX9_least_134 : decode cX9_least 134 = .ok (.invokestatic 190, 3) := by decide +kernel
theorem dX9_least_137 : decode cX9_least 137 = .ok (.iload_n 3, 1) := by decide +kernel
theorem dX9_least_138 : decode cX9_least 138 = .ok (.invokestatic 180, 3) := by decide +kernel
theorem dX9_least_141 : decode cX9_least 141 = .ok (.ireturn, 1) := by decide +kernel
theorem zd_X9_least : yX9_least.cls ≠ "java/lang/invoke/MethodHandle" ∧ yX9_least.cls ≠ "java/lang/invoke/VarHandle" ∧ (parseMethodDescriptor yX9_least.desc).map (fun d => d.parameters.length) = some 3 := by decide +kernel
set_option maxHeartbeats 4000000 in
set_option maxRecDepth 100000 in
theorem zc_X9_least (l : Launch) (D : va_G) (cI cZ : ClassId) (M : Nat) (th : Int32) (mtx : Nat) (len : Nat) (pl : Nat) (mod_ : Nat) (n : Nat) (mne : Nat) (mro : Nat) (m : Nat) (rrt : Int32) (rfr : Int32) (rpr : Int32) (mrod : Nat) (rn9 : Nat) (mrne : Nat) (mrro : Nat) (rm9 : Nat) (mrp : Nat) (mpg : Nat) (mbk : Nat) (ac : Nat) (mke : Nat) (mik : Nat) (cr : Nat) (mrw : Nat) (mrd : Nat) (sd : Int64) (mtr : Nat) (mwo : Nat) (mnx : Nat) (jr : Int32) (q5 : Nat) (r5 : Nat) (s5 : Nat) (od : Nat → Int32) (g : Nat → Int32) (f : Nat → Int32) (t : Nat → Int32) (wo : Nat → Int32) (nx : Nat → Int32) (x1 : Int32) (x2 : Int32) (u1 : Int32) (hn : n ≤ 5) (hpg : zpr n f g) (hpv : zpv n f) (hov : zov od) (hq : q5 ≤ 9) (hr : r5 ≤ 9) (hs : s5 ≤ 9) : zI l yX9_least cX9_least 6 .int 2 56 D cI cZ [.ref M, .int x1, .int x2, .int u1] [(M, .inr (9, [.int th, .ref mtx, .int (nI len), .int (nI pl), .int (nI q5), .int (nI r5), .int (nI s5), .ref mod_, .int (nI n), .ref mne, .ref mro, .int (nI m), .int rrt, .int rfr, .int rpr, .ref mrod, .int (nI rn9), .ref mrne, .ref mrro, .int (nI rm9), .ref mrp, .ref mpg, .ref mbk, .int (nI ac), .ref mke, .ref mik, .int (nI cr), .ref mrw, .ref mrd, .long sd, .ref mtr, .ref mwo, .ref mnx, .int jr])), (mod_, .inl (cI, 4, .inl od)), (mpg, .inl (cI, 36, .inl g)), (mtr, .inl (cI, 36, .inl t)), (mwo, .inl (cI, 64, .inl wo)), (mnx, .inl (cI, 64, .inl nx))] (fun (r : Int32) (u : (Nat → Int32) × (Nat → Int32) × (Nat → Int32)) => r = zPa n x1 (fun p => zRa 1 3 x2 (fun d => zfrac u1 (zls f od (nI q5) (nI r5) (nI s5) n p d d).toNatClampNeg (10 ^ d)) (-2)) (-1)) (fun (u : (Nat → Int32) × (Nat → Int32) × (Nat → Int32)) => [(M, .inr (9, [.int (nI 0), .ref mtx, .int (nI len), .int (nI pl), .int (nI q5), .int (nI r5), .int (nI s5), .ref mod_, .int (nI n), .ref mne, .ref mro, .int (nI m), .int rrt, .int rfr, .int rpr, .ref mrod, .int (nI rn9), .ref mrne, .ref mrro, .int (nI rm9), .ref mrp, .ref mpg, .ref mbk, .int (nI ac), .ref mke, .ref mik, .int (nI cr), .ref mrw, .ref mrd, .long sd, .ref mtr, .ref mwo, .ref mnx, .int jr])), (mod_, .inl (cI, 4, .inl od)), (mpg, .inl (cI, 36, .inl g)), (mtr, .inl (cI, 36, .inl u.1)), (mwo, .inl (cI, 64, .inl u.2.1)), (mnx, .inl (cI, 64, .inl u.2.2))]) := by
  refine zI_of (by decide) (Nat.le_of_ble_eq_true rfl) ?_
  intro pP eE sS mM aA bB mT cC A ls Z hP hD hS hl
  have hx := Z.1
  have hb := Z.2.1
  have hown := Z.2.2.2.2.2.1
  have hts := Z.2.2.2.2.1
  have Z : zAt pP sS mM aA mT cC D cI cZ A "SurpriseTaxModel" cX9_least 6 (some .int) := Z
  have hl : lv_has ls 6 [(0, .ref M), (1, .int x1), (2, .int x2), (3, .int u1)] := hl
  obtain ⟨H, hH⟩ : ∃ H, H = sS.heap := ⟨_, rfl⟩
  have hP : va_P D vwCl [(M, .inr (9, [.int th, .ref mtx, .int (nI len), .int (nI pl), .int (nI q5), .int (nI r5), .int (nI s5), .ref mod_, .int (nI n), .ref mne, .ref mro, .int (nI m), .int rrt, .int rfr, .int rpr, .ref mrod, .int (nI rn9), .ref mrne, .ref mrro, .int (nI rm9), .ref mrp, .ref mpg, .ref mbk, .int (nI ac), .ref mke, .ref mik, .int (nI cr), .ref mrw, .ref mrd, .long sd, .ref mtr, .ref mwo, .ref mnx, .int jr])), (mod_, .inl (cI, 4, .inl od)), (mpg, .inl (cI, 36, .inl g)), (mtr, .inl (cI, 36, .inl t)), (mwo, .inl (cI, 64, .inl wo)), (mnx, .inl (cI, 64, .inl nx))] H := by rw [hH]; exact hP
  have hS : va_S A sS.heap H [] := by rw [hH]; exact hS
  rw [← hH]
  clear hH
  obtain ⟨locs, hlo⟩ : ∃ q : List Loc, q = [] := ⟨_, rfl⟩
  rw [← hlo] at hS ⊢
  clear hlo
  refine lv_aload_n hx hb dX9_least_0 rfl (lv_at hl 0 rfl) ?_
  refine lv_iconst (v := nI 0) hx hb dX9_least_1 (by decide) ?_
  refine z_put (ci := 9) (v := .int (nI 0)) Z zin9 tyX9 tyX9_ok nmX9 hP hD hS 0 rfl rfl 0 (by decide) zm677 rfl rfl rfl rfl (Nat.le_of_ble_eq_true rfl) dX9_least_2 (fun H locs hP hD hS => ?_)
  have hP : va_P D vwCl [(M, .inr (9, [.int (nI 0), .ref mtx, .int (nI len), .int (nI pl), .int (nI q5), .int (nI r5), .int (nI s5), .ref mod_, .int (nI n), .ref mne, .ref mro, .int (nI m), .int rrt, .int rfr, .int rpr, .ref mrod, .int (nI rn9), .ref mrne, .ref mrro, .int (nI rm9), .ref mrp, .ref mpg, .ref mbk, .int (nI ac), .ref mke, .ref mik, .int (nI cr), .ref mrw, .ref mrd, .long sd, .ref mtr, .ref mwo, .ref mnx, .int jr])), (mod_, .inl (cI, 4, .inl od)), (mpg, .inl (cI, 36, .inl g)), (mtr, .inl (cI, 36, .inl t)), (mwo, .inl (cI, 64, .inl wo)), (mnx, .inl (cI, 64, .inl nx))] H := hP
  have hD : va_D A [(M, .inr (9, [.int (nI 0), .ref mtx, .int (nI len), .int (nI pl), .int (nI q5), .int (nI r5), .int (nI s5), .ref mod_, .int (nI n), .ref mne, .ref mro, .int (nI m), .int rrt, .int rfr, .int rpr, .ref mrod, .int (nI rn9), .ref mrne, .ref mrro, .int (nI rm9), .ref mrp, .ref mpg, .ref mbk, .int (nI ac), .ref mke, .ref mik, .int (nI cr), .ref mrw, .ref mrd, .long sd, .ref mtr, .ref mwo, .ref mnx, .int jr])), (mod_, .inl (cI, 4, .inl od)), (mpg, .inl (cI, 36, .inl g)), (mtr, .inl (cI, 36, .inl t)), (mwo, .inl (cI, 64, .inl wo)), (mnx, .inl (cI, 64, .inl nx))] := hD
  refine lv_aload_n hx hb dX9_least_5 rfl (lv_at hl 0 rfl) ?_
  refine lv_iload_n hx hb dX9_least_6 rfl (lv_at hl 1 rfl) ?_
  refine z_callVi (As := [.int x1]) (rest := []) (ci := 9) (k0 := 0) Z hP hD hS hl.1 (zc_X9_noOne l D cI cZ M (nI 0) mtx len pl (nI q5) (nI r5) (nI s5) mod_ n mne mro m rrt rfr rpr mrod rn9 mrne mrro rm9 mrp mpg mbk ac mke mik cr mrw mrd sd mtr mwo mnx jr x1 (by omega)) zm797 zm798 zm19 zm39 zm799 ⟨rfl, zd_X9_noOne⟩ ⟨Nat.le_of_ble_eq_true rfl, Nat.le_of_ble_eq_true rfl⟩ ⟨Nat.zero_le _, Nat.zero_le _⟩ [0] rfl (by decide) rfl rfl rfl (fun _ => rfl) rfl (Nat.le_of_ble_eq_true rfl) rfl dX9_least_7 (fun r_1 u H locs h_2 hP hD hS => ?_)
  have hP : va_P D vwCl [(M, .inr (9, [.int (nI 0), .ref mtx, .int (nI len), .int (nI pl), .int (nI q5), .int (nI r5), .int (nI s5), .ref mod_, .int (nI n), .ref mne, .ref mro, .int (nI m), .int rrt, .int rfr, .int rpr, .ref mrod, .int (nI rn9), .ref mrne, .ref mrro, .int (nI rm9), .ref mrp, .ref mpg, .ref mbk, .int (nI ac), .ref mke, .ref mik, .int (nI cr), .ref mrw, .ref mrd, .long sd, .ref mtr, .ref mwo, .ref mnx, .int jr])), (mod_, .inl (cI, 4, .inl od)), (mpg, .inl (cI, 36, .inl g)), (mtr, .inl (cI, 36, .inl t)), (mwo, .inl (cI, 64, .inl wo)), (mnx, .inl (cI, 64, .inl nx))] H := hP
  have hD : va_D A [(M, .inr (9, [.int (nI 0), .ref mtx, .int (nI len), .int (nI pl), .int (nI q5), .int (nI r5), .int (nI s5), .ref mod_, .int (nI n), .ref mne, .ref mro, .int (nI m), .int rrt, .int rfr, .int rpr, .ref mrod, .int (nI rn9), .ref mrne, .ref mrro, .int (nI rm9), .ref mrp, .ref mpg, .ref mbk, .int (nI ac), .ref mke, .ref mik, .int (nI cr), .ref mrw, .ref mrd, .long sd, .ref mtr, .ref mwo, .ref mnx, .int jr])), (mod_, .inl (cI, 4, .inl od)), (mpg, .inl (cI, 36, .inl g)), (mtr, .inl (cI, 36, .inl t)), (mwo, .inl (cI, 64, .inl wo)), (mnx, .inl (cI, 64, .inl nx))] := hD
  have h_2 : r_1 = if ¬ zhas n x1 then 1 else 0 := h_2
  subst h_2
  refine lv_if_eq (tgt := 15) hx hb dX9_least_10 (by decide) (fun c_3 => ?_) (fun c_3 => ?_)
  · have c_3 := zb0 c_3
    have hzz := Classical.not_not.mp c_3
    obtain ⟨p, hp, rfl⟩ := zhas_of (by omega) hzz
    refine lv_iload_n hx hb dX9_least_15 rfl (lv_at hl 2 rfl) ?_
    refine lv_i2l (v := x2.toInt64) hx hb dX9_least_16 rfl ?_
    refine lv_lconst (v := 1) hx hb dX9_least_17 (by decide) ?_
    refine lv_ldc2 (v := 3) hx hb hown (hts _ zm800) dX9_least_18 ?_
    refine z_callSi (As := [.long x2.toInt64, .long 1, .long 3]) (rest := []) Z hP hD hS hl.1 (zc_X9_in l D cI cZ x2.toInt64 1 3 ) zm750 zm751 zm39 zm752 zd_X9_in ⟨Nat.le_of_ble_eq_true rfl, Nat.le_of_ble_eq_true rfl⟩ ⟨Nat.zero_le _, Nat.zero_le _⟩ [] rfl (by decide) (fun _ => rfl) rfl (Nat.le_of_ble_eq_true rfl) rfl dX9_least_21 (fun r_4 u H locs h_5 hP hD hS => ?_)
    have hP : va_P D vwCl [(M, .inr (9, [.int (nI 0), .ref mtx, .int (nI len), .int (nI pl), .int (nI q5), .int (nI r5), .int (nI s5), .ref mod_, .int (nI n), .ref mne, .ref mro, .int (nI m), .int rrt, .int rfr, .int rpr, .ref mrod, .int (nI rn9), .ref mrne, .ref mrro, .int (nI rm9), .ref mrp, .ref mpg, .ref mbk, .int (nI ac), .ref mke, .ref mik, .int (nI cr), .ref mrw, .ref mrd, .long sd, .ref mtr, .ref mwo, .ref mnx, .int jr])), (mod_, .inl (cI, 4, .inl od)), (mpg, .inl (cI, 36, .inl g)), (mtr, .inl (cI, 36, .inl t)), (mwo, .inl (cI, 64, .inl wo)), (mnx, .inl (cI, 64, .inl nx))] H := hP
    have hD : va_D A [(M, .inr (9, [.int (nI 0), .ref mtx, .int (nI len), .int (nI pl), .int (nI q5), .int (nI r5), .int (nI s5), .ref mod_, .int (nI n), .ref mne, .ref mro, .int (nI m), .int rrt, .int rfr, .int rpr, .ref mrod, .int (nI rn9), .ref mrne, .ref mrro, .int (nI rm9), .ref mrp, .ref mpg, .ref mbk, .int (nI ac), .ref mke, .ref mik, .int (nI cr), .ref mrw, .ref mrd, .long sd, .ref mtr, .ref mwo, .ref mnx, .int jr])), (mod_, .inl (cI, 4, .inl od)), (mpg, .inl (cI, 36, .inl g)), (mtr, .inl (cI, 36, .inl t)), (mwo, .inl (cI, 64, .inl wo)), (mnx, .inl (cI, 64, .inl nx))] := hD
    have h_5 : r_4 = if ¬ x2.toInt64 < 1 ∧ ¬ 3 < x2.toInt64 then 1 else 0 := h_5
    subst h_5
    refine lv_if_ne (tgt := 30) hx hb dX9_least_24 (by decide) (fun c_6 => ?_) (fun c_6 => ?_)
    · have c_6 := zb1 c_6
      have hrg := (zinr (x := x2) 1 3 rfl rfl).mp c_6
      obtain ⟨d, hd0, hd, rfl⟩ := zRa_of (lo := 1) (hi := 3) (by decide) (by decide) hrg.1 hrg.2
      refine lv_iload_n hx hb dX9_least_30 rfl (lv_at hl 2 rfl) ?_
      refine lv_iconst (v := nI 1) hx hb dX9_least_31 (by decide) ?_
      refine lv_isub hx hb dX9_least_32 ?_
      refine z_top (y := nI (d - 1)) (z_sub' (by omega)) ?_
      refine lv_istore (lv' := [(4, .int (nI (d - 1))), (0, .ref M), (1, .int (nI p)), (2, .int (nI d)), (3, .int u1)]) hx hb dX9_least_33 hl (by decide) rfl (fun ls hl => ?_)
      have hl : lv_has ls 6 [(4, .int (nI (d - 1))), (0, .ref M), (1, .int (nI p)), (2, .int (nI d)), (3, .int u1)] := lv_sub hl [0, 1, 2, 3, 4] rfl
      have e_8 : nI (d - 1) = nI (d - 0) - 1 := by first | exact zdn_z hd0 | rfl
      have hl : lv_has ls 6 [(4, .int (nI (d - 0) - 1)), (0, .ref M), (1, .int (nI p)), (2, .int (nI d)), (3, .int u1)] := Eq.subst (motive := fun zz_ => lv_has ls 6 [(4, .int zz_), (0, .ref M), (1, .int (nI p)), (2, .int (nI d)), (3, .int u1)]) e_8 hl
      refine z_loopm (fun (x_ : Nat × (Nat → Int32) × (Nat → Int32) × (Nat → Int32)) H locs ls => va_P D vwCl [(M, .inr (9, [.int (nI 0), .ref mtx, .int (nI len), .int (nI pl), .int (nI q5), .int (nI r5), .int (nI s5), .ref mod_, .int (nI n), .ref mne, .ref mro, .int (nI m), .int rrt, .int rfr, .int rpr, .ref mrod, .int (nI rn9), .ref mrne, .ref mrro, .int (nI rm9), .ref mrp, .ref mpg, .ref mbk, .int (nI ac), .ref mke, .ref mik, .int (nI cr), .ref mrw, .ref mrd, .long sd, .ref mtr, .ref mwo, .ref mnx, .int jr])), (mod_, .inl (cI, 4, .inl od)), (mpg, .inl (cI, 36, .inl g)), (mtr, .inl (cI, 36, .inl x_.2.1)), (mwo, .inl (cI, 64, .inl x_.2.2.1)), (mnx, .inl (cI, 64, .inl x_.2.2.2))] H ∧ va_D A [(M, .inr (9, [.int (nI 0), .ref mtx, .int (nI len), .int (nI pl), .int (nI q5), .int (nI r5), .int (nI s5), .ref mod_, .int (nI n), .ref mne, .ref mro, .int (nI m), .int rrt, .int rfr, .int rpr, .ref mrod, .int (nI rn9), .ref mrne, .ref mrro, .int (nI rm9), .ref mrp, .ref mpg, .ref mbk, .int (nI ac), .ref mke, .ref mik, .int (nI cr), .ref mrw, .ref mrd, .long sd, .ref mtr, .ref mwo, .ref mnx, .int jr])), (mod_, .inl (cI, 4, .inl od)), (mpg, .inl (cI, 36, .inl g)), (mtr, .inl (cI, 36, .inl x_.2.1)), (mwo, .inl (cI, 64, .inl x_.2.2.1)), (mnx, .inl (cI, 64, .inl x_.2.2.2))] ∧ va_S A sS.heap H locs ∧ lv_has ls 6 [(4, .int (nI (d - x_.1) - 1)), (0, .ref M), (1, .int (nI p)), (2, .int (nI d)), (3, .int u1)] ∧ (x_.1 ≤ d) ∧ (x_.1 = 0 ∨ ∀ y, y < 4 ^ (d - x_.1) → x_.2.2.2 y = zLV f od (nI q5) (nI r5) (nI s5) n p d x_.1 y)) (fun x_ => d - x_.1) (0, t, wo, nx) ⟨hP, hD, hS, hl, (by first | omega | exact Or.inl rfl), (by first | omega | exact Or.inl rfl)⟩ (fun x_ ih_7 H locs ls hI => ?_)
      obtain ⟨i, t9, w9, x9⟩ := x_
      obtain ⟨hP, hD, hS, hl, hv35_0, hv35_1⟩ := hI
      dsimp only at ih_7 hv35_0 hv35_1
      have hv35_0 : i ≤ d := hv35_0
      have hv35_1 : i = 0 ∨ ∀ y, y < 4 ^ (d - i) → x9 y = zLV f od (nI q5) (nI r5) (nI s5) n p d i y := hv35_1
      have hP : va_P D vwCl [(M, .inr (9, [.int (nI 0), .ref mtx, .int (nI len), .int (nI pl), .int (nI q5), .int (nI r5), .int (nI s5), .ref mod_, .int (nI n), .ref mne, .ref mro, .int (nI m), .int rrt, .int rfr, .int rpr, .ref mrod, .int (nI rn9), .ref mrne, .ref mrro, .int (nI rm9), .ref mrp, .ref mpg, .ref mbk, .int (nI ac), .ref mke, .ref mik, .int (nI cr), .ref mrw, .ref mrd, .long sd, .ref mtr, .ref mwo, .ref mnx, .int jr])), (mod_, .inl (cI, 4, .inl od)), (mpg, .inl (cI, 36, .inl g)), (mtr, .inl (cI, 36, .inl t9)), (mwo, .inl (cI, 64, .inl w9)), (mnx, .inl (cI, 64, .inl x9))] H := hP
      have hD : va_D A [(M, .inr (9, [.int (nI 0), .ref mtx, .int (nI len), .int (nI pl), .int (nI q5), .int (nI r5), .int (nI s5), .ref mod_, .int (nI n), .ref mne, .ref mro, .int (nI m), .int rrt, .int rfr, .int rpr, .ref mrod, .int (nI rn9), .ref mrne, .ref mrro, .int (nI rm9), .ref mrp, .ref mpg, .ref mbk, .int (nI ac), .ref mke, .ref mik, .int (nI cr), .ref mrw, .ref mrd, .long sd, .ref mtr, .ref mwo, .ref mnx, .int jr])), (mod_, .inl (cI, 4, .inl od)), (mpg, .inl (cI, 36, .inl g)), (mtr, .inl (cI, 36, .inl t9)), (mwo, .inl (cI, 64, .inl w9)), (mnx, .inl (cI, 64, .inl x9))] := hD
      have hl : lv_has ls 6 [(4, .int (nI (d - i) - 1)), (0, .ref M), (1, .int (nI p)), (2, .int (nI d)), (3, .int u1)] := hl
      refine lv_iload hx hb dX9_least_35 (lv_at hl 0 rfl) ?_
      refine lv_if_lt (tgt := 127) hx hb dX9_least_37 (by decide) (fun c_9 => ?_) (fun c_9 => ?_)
      · have c_9 : (nI (d - i) - 1) < 0 := c_9
        have hdi := zdown_t (by omega) c_9
        have hE_ : d = i := by omega
        subst hE_
        have hx0 := (hv35_1.resolve_left (by omega)) 0 (by rw [Nat.sub_self]; decide)
        obtain ⟨q, hzq, hq9⟩ := zls_nat hn hp hpv hov hq hr hs hd
        have hx1 := hx0.trans (zls_LV.symm.trans hzq)
        have h10 := zp10 hd0 hd
        refine lv_aload_n hx hb dX9_least_127 rfl (lv_at hl 1 rfl) ?_
        refine z_get (ci := 9) (v := .ref mnx) Z zin9 hP 0 rfl rfl 32 (by decide) zm709 rfl rfl dX9_least_128 ?_
        refine lv_iconst (v := nI 0) hx hb dX9_least_131 (by decide) ?_
        refine z_iald (n := 64) (f := x9) (j := 0) Z hP 5 rfl (by decide) (by decide) dX9_least_132 ?_
        refine z_top (y := nI q) (hx1) ?_
        refine lv_iload_n hx hb dX9_least_133 rfl (lv_at hl 3 rfl) ?_
        refine z_callSi (As := [.int (nI d)]) (rest := [.int (nI q)]) Z hP hD hS hl.1 (zc_X9_ten l D cI cZ d (by omega)) zm873 zm874 zm39 zm875 zd_X9_ten ⟨Nat.le_of_ble_eq_true rfl, Nat.le_of_ble_eq_true rfl⟩ ⟨Nat.zero_le _, Nat.zero_le _⟩ [] rfl (by decide) (fun _ => rfl) rfl (Nat.le_of_ble_eq_true rfl) rfl dX9_least_134 (fun r_10 u H locs h_11 hP hD hS => ?_)
        have hP : va_P D vwCl [(M, .inr (9, [.int (nI 0), .ref mtx, .int (nI len), .int (nI pl), .int (nI q5), .int (nI r5), .int (nI s5), .ref mod_, .int (nI n), .ref mne, .ref mro, .int (nI m), .int rrt, .int rfr, .int rpr, .ref mrod, .int (nI rn9), .ref mrne, .ref mrro, .int (nI rm9), .ref mrp, .ref mpg, .ref mbk, .int (nI ac), .ref mke, .ref mik, .int (nI cr), .ref mrw, .ref mrd, .long sd, .ref mtr, .ref mwo, .ref mnx, .int jr])), (mod_, .inl (cI, 4, .inl od)), (mpg, .inl (cI, 36, .inl g)), (mtr, .inl (cI, 36, .inl t9)), (mwo, .inl (cI, 64, .inl w9)), (mnx, .inl (cI, 64, .inl x9))] H := hP
        have hD : va_D A [(M, .inr (9, [.int (nI 0), .ref mtx, .int (nI len), .int (nI pl), .int (nI q5), .int (nI r5), .int (nI s5), .ref mod_, .int (nI n), .ref mne, .ref mro, .int (nI m), .int rrt, .int rfr, .int rpr, .ref mrod, .int (nI rn9), .ref mrne, .ref mrro, .int (nI rm9), .ref mrp, .ref mpg, .ref mbk, .int (nI ac), .ref mke, .ref mik, .int (nI cr), .ref mrw, .ref mrd, .long sd, .ref mtr, .ref mwo, .ref mnx, .int jr])), (mod_, .inl (cI, 4, .inl od)), (mpg, .inl (cI, 36, .inl g)), (mtr, .inl (cI, 36, .inl t9)), (mwo, .inl (cI, 64, .inl w9)), (mnx, .inl (cI, 64, .inl x9))] := hD
        have h_11 : r_10 = nI (10 ^ d) := h_11
        subst h_11
        refine lv_iload_n hx hb dX9_least_137 rfl (lv_at hl 4 rfl) ?_
        refine z_callSi (As := [.int (nI q), .int (nI (10 ^ d)), .int u1]) (rest := []) Z hP hD hS hl.1 (zc_X9_fraction l D cI cZ q (10 ^ d) u1 (by omega) (by omega) (by omega)) zm847 zm848 zm39 zm849 zd_X9_fraction ⟨Nat.le_of_ble_eq_true rfl, Nat.le_of_ble_eq_true rfl⟩ ⟨Nat.zero_le _, Nat.zero_le _⟩ [] rfl (by decide) (fun _ => rfl) rfl (Nat.le_of_ble_eq_true rfl) rfl dX9_least_138 (fun r_12 u H locs h_13 hP hD hS => ?_)
        have hP : va_P D vwCl [(M, .inr (9, [.int (nI 0), .ref mtx, .int (nI len), .int (nI pl), .int (nI q5), .int (nI r5), .int (nI s5), .ref mod_, .int (nI n), .ref mne, .ref mro, .int (nI m), .int rrt, .int rfr, .int rpr, .ref mrod, .int (nI rn9), .ref mrne, .ref mrro, .int (nI rm9), .ref mrp, .ref mpg, .ref mbk, .int (nI ac), .ref mke, .ref mik, .int (nI cr), .ref mrw, .ref mrd, .long sd, .ref mtr, .ref mwo, .ref mnx, .int jr])), (mod_, .inl (cI, 4, .inl od)), (mpg, .inl (cI, 36, .inl g)), (mtr, .inl (cI, 36, .inl t9)), (mwo, .inl (cI, 64, .inl w9)), (mnx, .inl (cI, 64, .inl x9))] H := hP
        have hD : va_D A [(M, .inr (9, [.int (nI 0), .ref mtx, .int (nI len), .int (nI pl), .int (nI q5), .int (nI r5), .int (nI s5), .ref mod_, .int (nI n), .ref mne, .ref mro, .int (nI m), .int rrt, .int rfr, .int rpr, .ref mrod, .int (nI rn9), .ref mrne, .ref mrro, .int (nI rm9), .ref mrp, .ref mpg, .ref mbk, .int (nI ac), .ref mke, .ref mik, .int (nI cr), .ref mrw, .ref mrd, .long sd, .ref mtr, .ref mwo, .ref mnx, .int jr])), (mod_, .inl (cI, 4, .inl od)), (mpg, .inl (cI, 36, .inl g)), (mtr, .inl (cI, 36, .inl t9)), (mwo, .inl (cI, 64, .inl w9)), (mnx, .inl (cI, 64, .inl x9))] := hD
        have h_13 : r_12 = zfrac u1 q (10 ^ d) := h_13
        subst h_13
        exact z_iret Z (t9, w9, x9) (by first | rw [zPa_n (by assumption)] | (rw [zPa_y hp hn]; first | rw [zRa_n hrgn] | (rw [zRa_y hd0 hd (by decide), hzq, nI_clamp hq9])) | rfl) hP hS dX9_least_141
      · have c_9 : ¬ ((nI (d - i) - 1) < 0) := c_9
        have hdf := zdown_f c_9
        have hE : (nI (d - i) - 1 : Int32) = (nI (d - i - 1)) := hdf.2
        have hl : lv_has ls 6 [(4, .int (nI (d - i - 1))), (0, .ref M), (1, .int (nI p)), (2, .int (nI d)), (3, .int u1)] := Eq.subst (motive := fun zz_ => lv_has ls 6 [(4, .int zz_), (0, .ref M), (1, .int (nI p)), (2, .int (nI d)), (3, .int u1)]) hE hl
        have h4 := zp4p (a := d - i - 1) hd (by omega)
        have h44 : 4 ^ (d - i) = 4 * 4 ^ (d - i - 1) := by rw [show d - i = (d - i - 1) + 1 by omega, Nat.pow_succ, Nat.mul_comm]; rfl
        have h43 := zp4p (a := d - i) hd (by omega)
        refine lv_iconst (v := nI 0) hx hb dX9_least_40 (by decide) ?_
        refine lv_istore (lv' := [(5, .int (nI 0)), (4, .int (nI (d - i - 1))), (0, .ref M), (1, .int (nI p)), (2, .int (nI d)), (3, .int u1)]) hx hb dX9_least_41 hl (by decide) rfl (fun ls hl => ?_)
        have hl : lv_has ls 6 [(5, .int (nI 0)), (4, .int (nI (d - i - 1))), (0, .ref M), (1, .int (nI p)), (2, .int (nI d)), (3, .int u1)] := lv_sub hl [0, 1, 2, 3, 4, 5] rfl
        refine z_loopm (fun (x_ : Nat × (Nat → Int32) × (Nat → Int32)) H locs ls => va_P D vwCl [(M, .inr (9, [.int (nI 0), .ref mtx, .int (nI len), .int (nI pl), .int (nI q5), .int (nI r5), .int (nI s5), .ref mod_, .int (nI n), .ref mne, .ref mro, .int (nI m), .int rrt, .int rfr, .int rpr, .ref mrod, .int (nI rn9), .ref mrne, .ref mrro, .int (nI rm9), .ref mrp, .ref mpg, .ref mbk, .int (nI ac), .ref mke, .ref mik, .int (nI cr), .ref mrw, .ref mrd, .long sd, .ref mtr, .ref mwo, .ref mnx, .int jr])), (mod_, .inl (cI, 4, .inl od)), (mpg, .inl (cI, 36, .inl g)), (mtr, .inl (cI, 36, .inl x_.2.1)), (mwo, .inl (cI, 64, .inl x_.2.2)), (mnx, .inl (cI, 64, .inl x9))] H ∧ va_D A [(M, .inr (9, [.int (nI 0), .ref mtx, .int (nI len), .int (nI pl), .int (nI q5), .int (nI r5), .int (nI s5), .ref mod_, .int (nI n), .ref mne, .ref mro, .int (nI m), .int rrt, .int rfr, .int rpr, .ref mrod, .int (nI rn9), .ref mrne, .ref mrro, .int (nI rm9), .ref mrp, .ref mpg, .ref mbk, .int (nI ac), .ref mke, .ref mik, .int (nI cr), .ref mrw, .ref mrd, .long sd, .ref mtr, .ref mwo, .ref mnx, .int jr])), (mod_, .inl (cI, 4, .inl od)), (mpg, .inl (cI, 36, .inl g)), (mtr, .inl (cI, 36, .inl x_.2.1)), (mwo, .inl (cI, 64, .inl x_.2.2)), (mnx, .inl (cI, 64, .inl x9))] ∧ va_S A sS.heap H locs ∧ lv_has ls 6 [(5, .int (nI x_.1)), (4, .int (nI (d - i - 1))), (0, .ref M), (1, .int (nI p)), (2, .int (nI d)), (3, .int u1)] ∧ (x_.1 ≤ 4 ^ (d - i - 1)) ∧ (∀ y, y < x_.1 → x_.2.2 y = zLV f od (nI q5) (nI r5) (nI s5) n p d (i + 1) y)) (fun x_ => 4 ^ (d - i - 1) - x_.1) (0, t9, w9) ⟨hP, hD, hS, hl, (by first | exact Nat.zero_le _ | exact fun y hy => absurd hy (Nat.not_lt_zero _)), (by first | exact Nat.zero_le _ | exact fun y hy => absurd hy (Nat.not_lt_zero _))⟩ (fun x_ ih_14 H locs ls hI => ?_)
        obtain ⟨w, t8, w8⟩ := x_
        obtain ⟨hP, hD, hS, hl, hv43_0, hv43_1⟩ := hI
        dsimp only at ih_14 hv43_0 hv43_1
        have hv43_0 : w ≤ 4 ^ (d - i - 1) := hv43_0
        have hv43_1 : ∀ y, y < w → w8 y = zLV f od (nI q5) (nI r5) (nI s5) n p d (i + 1) y := hv43_1
        have hP : va_P D vwCl [(M, .inr (9, [.int (nI 0), .ref mtx, .int (nI len), .int (nI pl), .int (nI q5), .int (nI r5), .int (nI s5), .ref mod_, .int (nI n), .ref mne, .ref mro, .int (nI m), .int rrt, .int rfr, .int rpr, .ref mrod, .int (nI rn9), .ref mrne, .ref mrro, .int (nI rm9), .ref mrp, .ref mpg, .ref mbk, .int (nI ac), .ref mke, .ref mik, .int (nI cr), .ref mrw, .ref mrd, .long sd, .ref mtr, .ref mwo, .ref mnx, .int jr])), (mod_, .inl (cI, 4, .inl od)), (mpg, .inl (cI, 36, .inl g)), (mtr, .inl (cI, 36, .inl t8)), (mwo, .inl (cI, 64, .inl w8)), (mnx, .inl (cI, 64, .inl x9))] H := hP
        have hD : va_D A [(M, .inr (9, [.int (nI 0), .ref mtx, .int (nI len), .int (nI pl), .int (nI q5), .int (nI r5), .int (nI s5), .ref mod_, .int (nI n), .ref mne, .ref mro, .int (nI m), .int rrt, .int rfr, .int rpr, .ref mrod, .int (nI rn9), .ref mrne, .ref mrro, .int (nI rm9), .ref mrp, .ref mpg, .ref mbk, .int (nI ac), .ref mke, .ref mik, .int (nI cr), .ref mrw, .ref mrd, .long sd, .ref mtr, .ref mwo, .ref mnx, .int jr])), (mod_, .inl (cI, 4, .inl od)), (mpg, .inl (cI, 36, .inl g)), (mtr, .inl (cI, 36, .inl t8)), (mwo, .inl (cI, 64, .inl w8)), (mnx, .inl (cI, 64, .inl x9))] := hD
        have hl : lv_has ls 6 [(5, .int (nI w)), (4, .int (nI (d - i - 1))), (0, .ref M), (1, .int (nI p)), (2, .int (nI d)), (3, .int u1)] := hl
        refine lv_iload hx hb dX9_least_43 (lv_at hl 0 rfl) ?_
        refine lv_iload hx hb dX9_least_45 (lv_at hl 1 rfl) ?_
        refine z_callSi (As := [.int (nI (d - i - 1))]) (rest := [.int (nI w)]) Z hP hD hS hl.1 (zc_X9_four l D cI cZ (d - i - 1) (by omega)) zm864 zm865 zm39 zm866 zd_X9_four ⟨Nat.le_of_ble_eq_true rfl, Nat.le_of_ble_eq_true rfl⟩ ⟨Nat.zero_le _, Nat.zero_le _⟩ [] rfl (by decide) (fun _ => rfl) rfl (Nat.le_of_ble_eq_true rfl) rfl dX9_least_47 (fun r_15 u H locs h_16 hP hD hS => ?_)
        have hP : va_P D vwCl [(M, .inr (9, [.int (nI 0), .ref mtx, .int (nI len), .int (nI pl), .int (nI q5), .int (nI r5), .int (nI s5), .ref mod_, .int (nI n), .ref mne, .ref mro, .int (nI m), .int rrt, .int rfr, .int rpr, .ref mrod, .int (nI rn9), .ref mrne, .ref mrro, .int (nI rm9), .ref mrp, .ref mpg, .ref mbk, .int (nI ac), .ref mke, .ref mik, .int (nI cr), .ref mrw, .ref mrd, .long sd, .ref mtr, .ref mwo, .ref mnx, .int jr])), (mod_, .inl (cI, 4, .inl od)), (mpg, .inl (cI, 36, .inl g)), (mtr, .inl (cI, 36, .inl t8)), (mwo, .inl (cI, 64, .inl w8)), (mnx, .inl (cI, 64, .inl x9))] H := hP
        have hD : va_D A [(M, .inr (9, [.int (nI 0), .ref mtx, .int (nI len), .int (nI pl), .int (nI q5), .int (nI r5), .int (nI s5), .ref mod_, .int (nI n), .ref mne, .ref mro, .int (nI m), .int rrt, .int rfr, .int rpr, .ref mrod, .int (nI rn9), .ref mrne, .ref mrro, .int (nI rm9), .ref mrp, .ref mpg, .ref mbk, .int (nI ac), .ref mke, .ref mik, .int (nI cr), .ref mrw, .ref mrd, .long sd, .ref mtr, .ref mwo, .ref mnx, .int jr])), (mod_, .inl (cI, 4, .inl od)), (mpg, .inl (cI, 36, .inl g)), (mtr, .inl (cI, 36, .inl t8)), (mwo, .inl (cI, 64, .inl w8)), (mnx, .inl (cI, 64, .inl x9))] := hD
        have h_16 : r_15 = nI (4 ^ (d - i - 1)) := h_16
        subst h_16
        refine lv_icmp_ge (tgt := 88) hx hb dX9_least_50 (by decide) (fun c_17 => ?_) (fun c_17 => ?_)
        · have c_17 := zle (i := 4 ^ (d - i - 1)) (j := w) (by omega) (by omega) c_17
          have hw4 : w = 4 ^ (d - i - 1) := by omega
          refine lv_iconst (v := nI 0) hx hb dX9_least_88 (by decide) ?_
          refine lv_istore (lv' := [(5, .int (nI 0)), (4, .int (nI (d - i - 1))), (0, .ref M), (1, .int (nI p)), (2, .int (nI d)), (3, .int u1)]) hx hb dX9_least_89 hl (by decide) rfl (fun ls hl => ?_)
          have hl : lv_has ls 6 [(5, .int (nI 0)), (4, .int (nI (d - i - 1))), (0, .ref M), (1, .int (nI p)), (2, .int (nI d)), (3, .int u1)] := lv_sub hl [0, 1, 2, 3, 4, 5] rfl
          refine z_loopm (fun (x_ : Nat × (Nat → Int32)) H locs ls => va_P D vwCl [(M, .inr (9, [.int (nI 0), .ref mtx, .int (nI len), .int (nI pl), .int (nI q5), .int (nI r5), .int (nI s5), .ref mod_, .int (nI n), .ref mne, .ref mro, .int (nI m), .int rrt, .int rfr, .int rpr, .ref mrod, .int (nI rn9), .ref mrne, .ref mrro, .int (nI rm9), .ref mrp, .ref mpg, .ref mbk, .int (nI ac), .ref mke, .ref mik, .int (nI cr), .ref mrw, .ref mrd, .long sd, .ref mtr, .ref mwo, .ref mnx, .int jr])), (mod_, .inl (cI, 4, .inl od)), (mpg, .inl (cI, 36, .inl g)), (mtr, .inl (cI, 36, .inl t8)), (mwo, .inl (cI, 64, .inl w8)), (mnx, .inl (cI, 64, .inl x_.2))] H ∧ va_D A [(M, .inr (9, [.int (nI 0), .ref mtx, .int (nI len), .int (nI pl), .int (nI q5), .int (nI r5), .int (nI s5), .ref mod_, .int (nI n), .ref mne, .ref mro, .int (nI m), .int rrt, .int rfr, .int rpr, .ref mrod, .int (nI rn9), .ref mrne, .ref mrro, .int (nI rm9), .ref mrp, .ref mpg, .ref mbk, .int (nI ac), .ref mke, .ref mik, .int (nI cr), .ref mrw, .ref mrd, .long sd, .ref mtr, .ref mwo, .ref mnx, .int jr])), (mod_, .inl (cI, 4, .inl od)), (mpg, .inl (cI, 36, .inl g)), (mtr, .inl (cI, 36, .inl t8)), (mwo, .inl (cI, 64, .inl w8)), (mnx, .inl (cI, 64, .inl x_.2))] ∧ va_S A sS.heap H locs ∧ lv_has ls 6 [(5, .int (nI x_.1)), (4, .int (nI (d - i - 1))), (0, .ref M), (1, .int (nI p)), (2, .int (nI d)), (3, .int u1)] ∧ (x_.1 ≤ 4 ^ (d - i - 1)) ∧ (∀ y, y < x_.1 → x_.2 y = zLV f od (nI q5) (nI r5) (nI s5) n p d (i + 1) y)) (fun x_ => 4 ^ (d - i - 1) - x_.1) (0, x9) ⟨hP, hD, hS, hl, (by first | exact Nat.zero_le _ | exact fun y hy => absurd hy (Nat.not_lt_zero _)), (by first | exact Nat.zero_le _ | exact fun y hy => absurd hy (Nat.not_lt_zero _))⟩ (fun x_ ih_18 H locs ls hI => ?_)
          obtain ⟨v, x8⟩ := x_
          obtain ⟨hP, hD, hS, hl, hv91_0, hv91_1⟩ := hI
          dsimp only at ih_18 hv91_0 hv91_1
          have hv91_0 : v ≤ 4 ^ (d - i - 1) := hv91_0
          have hv91_1 : ∀ y, y < v → x8 y = zLV f od (nI q5) (nI r5) (nI s5) n p d (i + 1) y := hv91_1
          have hP : va_P D vwCl [(M, .inr (9, [.int (nI 0), .ref mtx, .int (nI len), .int (nI pl), .int (nI q5), .int (nI r5), .int (nI s5), .ref mod_, .int (nI n), .ref mne, .ref mro, .int (nI m), .int rrt, .int rfr, .int rpr, .ref mrod, .int (nI rn9), .ref mrne, .ref mrro, .int (nI rm9), .ref mrp, .ref mpg, .ref mbk, .int (nI ac), .ref mke, .ref mik, .int (nI cr), .ref mrw, .ref mrd, .long sd, .ref mtr, .ref mwo, .ref mnx, .int jr])), (mod_, .inl (cI, 4, .inl od)), (mpg, .inl (cI, 36, .inl g)), (mtr, .inl (cI, 36, .inl t8)), (mwo, .inl (cI, 64, .inl w8)), (mnx, .inl (cI, 64, .inl x8))] H := hP
          have hD : va_D A [(M, .inr (9, [.int (nI 0), .ref mtx, .int (nI len), .int (nI pl), .int (nI q5), .int (nI r5), .int (nI s5), .ref mod_, .int (nI n), .ref mne, .ref mro, .int (nI m), .int rrt, .int rfr, .int rpr, .ref mrod, .int (nI rn9), .ref mrne, .ref mrro, .int (nI rm9), .ref mrp, .ref mpg, .ref mbk, .int (nI ac), .ref mke, .ref mik, .int (nI cr), .ref mrw, .ref mrd, .long sd, .ref mtr, .ref mwo, .ref mnx, .int jr])), (mod_, .inl (cI, 4, .inl od)), (mpg, .inl (cI, 36, .inl g)), (mtr, .inl (cI, 36, .inl t8)), (mwo, .inl (cI, 64, .inl w8)), (mnx, .inl (cI, 64, .inl x8))] := hD
          have hl : lv_has ls 6 [(5, .int (nI v)), (4, .int (nI (d - i - 1))), (0, .ref M), (1, .int (nI p)), (2, .int (nI d)), (3, .int u1)] := hl
          refine lv_iload hx hb dX9_least_91 (lv_at hl 0 rfl) ?_
          refine lv_iload hx hb dX9_least_93 (lv_at hl 1 rfl) ?_
          refine z_callSi (As := [.int (nI (d - i - 1))]) (rest := [.int (nI v)]) Z hP hD hS hl.1 (zc_X9_four l D cI cZ (d - i - 1) (by omega)) zm864 zm865 zm39 zm866 zd_X9_four ⟨Nat.le_of_ble_eq_true rfl, Nat.le_of_ble_eq_true rfl⟩ ⟨Nat.zero_le _, Nat.zero_le _⟩ [] rfl (by decide) (fun _ => rfl) rfl (Nat.le_of_ble_eq_true rfl) rfl dX9_least_95 (fun r_19 u H locs h_20 hP hD hS => ?_)
          have hP : va_P D vwCl [(M, .inr (9, [.int (nI 0), .ref mtx, .int (nI len), .int (nI pl), .int (nI q5), .int (nI r5), .int (nI s5), .ref mod_, .int (nI n), .ref mne, .ref mro, .int (nI m), .int rrt, .int rfr, .int rpr, .ref mrod, .int (nI rn9), .ref mrne, .ref mrro, .int (nI rm9), .ref mrp, .ref mpg, .ref mbk, .int (nI ac), .ref mke, .ref mik, .int (nI cr), .ref mrw, .ref mrd, .long sd, .ref mtr, .ref mwo, .ref mnx, .int jr])), (mod_, .inl (cI, 4, .inl od)), (mpg, .inl (cI, 36, .inl g)), (mtr, .inl (cI, 36, .inl t8)), (mwo, .inl (cI, 64, .inl w8)), (mnx, .inl (cI, 64, .inl x8))] H := hP
          have hD : va_D A [(M, .inr (9, [.int (nI 0), .ref mtx, .int (nI len), .int (nI pl), .int (nI q5), .int (nI r5), .int (nI s5), .ref mod_, .int (nI n), .ref mne, .ref mro, .int (nI m), .int rrt, .int rfr, .int rpr, .ref mrod, .int (nI rn9), .ref mrne, .ref mrro, .int (nI rm9), .ref mrp, .ref mpg, .ref mbk, .int (nI ac), .ref mke, .ref mik, .int (nI cr), .ref mrw, .ref mrd, .long sd, .ref mtr, .ref mwo, .ref mnx, .int jr])), (mod_, .inl (cI, 4, .inl od)), (mpg, .inl (cI, 36, .inl g)), (mtr, .inl (cI, 36, .inl t8)), (mwo, .inl (cI, 64, .inl w8)), (mnx, .inl (cI, 64, .inl x8))] := hD
          have h_20 : r_19 = nI (4 ^ (d - i - 1)) := h_20
          subst h_20
          refine lv_icmp_ge (tgt := 121) hx hb dX9_least_98 (by decide) (fun c_21 => ?_) (fun c_21 => ?_)
          · have c_21 := zle (i := 4 ^ (d - i - 1)) (j := v) (by omega) (by omega) c_21
            have hE : (nI (d - i - 1) : Int32) = (nI (d - i) - 1) := hdf.2.symm
            have hl : lv_has ls 6 [(5, .int (nI v)), (4, .int (nI (d - i) - 1)), (0, .ref M), (1, .int (nI p)), (2, .int (nI d)), (3, .int u1)] := Eq.subst (motive := fun zz_ => lv_has ls 6 [(5, .int (nI v)), (4, .int zz_), (0, .ref M), (1, .int (nI p)), (2, .int (nI d)), (3, .int u1)]) hE hl
            refine lv_iinc (v := (nI (d - i) - 1) + -1) (lv' := [(4, .int ((nI (d - i) - 1) + -1)), (5, .int (nI v)), (0, .ref M), (1, .int (nI p)), (2, .int (nI d)), (3, .int u1)]) hx hb dX9_least_121 hl (k := 1) rfl rfl (by decide) rfl (fun ls hl => ?_)
            refine lv_goto (tgt := 35) hx hb dX9_least_124 (by decide) ?_
            have hl : lv_has ls 6 [(4, .int ((nI (d - i) - 1) + -1)), (0, .ref M), (1, .int (nI p)), (2, .int (nI d)), (3, .int u1)] := lv_sub hl [0, 2, 3, 4, 5] rfl
            have e_22 : (nI (d - i) - 1) + -1 = nI (d - (i + 1)) - 1 := by first | (rw [zdn_s (show i < d by omega)]; done) | rfl
            have hl : lv_has ls 6 [(4, .int (nI (d - (i + 1)) - 1)), (0, .ref M), (1, .int (nI p)), (2, .int (nI d)), (3, .int u1)] := Eq.subst (motive := fun zz_ => lv_has ls 6 [(4, .int zz_), (0, .ref M), (1, .int (nI p)), (2, .int (nI d)), (3, .int u1)]) e_22 hl
            exact ih_7 (i + 1, t8, w8, x8) _ _ _ (by omega) ⟨hP, hD, hS, hl, (by first | omega | exact Or.inr (fun y hy => hv91_1 y (by rw [show d - (i + 1) = d - i - 1 by omega] at hy; omega))), (by first | omega | exact Or.inr (fun y hy => hv91_1 y (by rw [show d - (i + 1) = d - i - 1 by omega] at hy; omega)))⟩
          · have c_21 := znle (i := 4 ^ (d - i - 1)) (j := v) (by omega) (by omega) c_21
            refine lv_aload_n hx hb dX9_least_101 rfl (lv_at hl 2 rfl) ?_
            refine z_get (ci := 9) (v := .ref mnx) Z zin9 hP 0 rfl rfl 32 (by decide) zm709 rfl rfl dX9_least_102 ?_
            refine lv_iload hx hb dX9_least_105 (lv_at hl 0 rfl) ?_
            refine lv_aload_n hx hb dX9_least_107 rfl (lv_at hl 2 rfl) ?_
            refine z_get (ci := 9) (v := .ref mwo) Z zin9 hP 0 rfl rfl 31 (by decide) zm708 rfl rfl dX9_least_108 ?_
            refine lv_iload hx hb dX9_least_111 (lv_at hl 0 rfl) ?_
            refine z_iald (n := 64) (f := w8) (j := v) Z hP 4 rfl (by omega) (by decide) dX9_least_113 ?_
            refine z_iast (n := 64) (f := x8) (j := v) (x := w8 v) Z hP hD hS 5 rfl (by omega) (by decide) dX9_least_114 (fun H locs hP hD hS => ?_)
            have hP : va_P D vwCl [(M, .inr (9, [.int (nI 0), .ref mtx, .int (nI len), .int (nI pl), .int (nI q5), .int (nI r5), .int (nI s5), .ref mod_, .int (nI n), .ref mne, .ref mro, .int (nI m), .int rrt, .int rfr, .int rpr, .ref mrod, .int (nI rn9), .ref mrne, .ref mrro, .int (nI rm9), .ref mrp, .ref mpg, .ref mbk, .int (nI ac), .ref mke, .ref mik, .int (nI cr), .ref mrw, .ref mrd, .long sd, .ref mtr, .ref mwo, .ref mnx, .int jr])), (mod_, .inl (cI, 4, .inl od)), (mpg, .inl (cI, 36, .inl g)), (mtr, .inl (cI, 36, .inl t8)), (mwo, .inl (cI, 64, .inl w8)), (mnx, .inl (cI, 64, .inl (upd x8 v (w8 v))))] H := hP
            have hD : va_D A [(M, .inr (9, [.int (nI 0), .ref mtx, .int (nI len), .int (nI pl), .int (nI q5), .int (nI r5), .int (nI s5), .ref mod_, .int (nI n), .ref mne, .ref mro, .int (nI m), .int rrt, .int rfr, .int rpr, .ref mrod, .int (nI rn9), .ref mrne, .ref mrro, .int (nI rm9), .ref mrp, .ref mpg, .ref mbk, .int (nI ac), .ref mke, .ref mik, .int (nI cr), .ref mrw, .ref mrd, .long sd, .ref mtr, .ref mwo, .ref mnx, .int jr])), (mod_, .inl (cI, 4, .inl od)), (mpg, .inl (cI, 36, .inl g)), (mtr, .inl (cI, 36, .inl t8)), (mwo, .inl (cI, 64, .inl w8)), (mnx, .inl (cI, 64, .inl (upd x8 v (w8 v))))] := hD
            refine lv_iinc (v := nI (v + 1)) (lv' := [(5, .int (nI (v + 1))), (4, .int (nI (d - i - 1))), (0, .ref M), (1, .int (nI p)), (2, .int (nI d)), (3, .int u1)]) hx hb dX9_least_115 hl (k := 0) rfl (z_inc _ 1) (by decide) rfl (fun ls hl => ?_)
            refine lv_goto (tgt := 91) hx hb dX9_least_118 (by decide) ?_
            have hl : lv_has ls 6 [(5, .int (nI (v + 1))), (4, .int (nI (d - i - 1))), (0, .ref M), (1, .int (nI p)), (2, .int (nI d)), (3, .int u1)] := lv_sub hl [0, 1, 2, 3, 4, 5] rfl
            exact ih_18 (v + 1, upd x8 v (w8 v)) _ _ _ (by omega) ⟨hP, hD, hS, hl, (by first | omega | exact zcpr_s hv91_1 (hv43_1 v (by omega))), (by first | omega | exact zcpr_s hv91_1 (hv43_1 v (by omega)))⟩
        · have c_17 := znle (i := 4 ^ (d - i - 1)) (j := w) (by omega) (by omega) c_17
          refine lv_aload_n hx hb dX9_least_53 rfl (lv_at hl 2 rfl) ?_
          refine lv_iload_n hx hb dX9_least_54 rfl (lv_at hl 3 rfl) ?_
          refine lv_iload hx hb dX9_least_55 (lv_at hl 1 rfl) ?_
          refine lv_iload hx hb dX9_least_57 (lv_at hl 0 rfl) ?_
          refine z_callVv (As := [.int (nI p), .int (nI (d - i - 1)), .int (nI w)]) (rest := []) (ci := 9) (k0 := 0) Z hP hD hS hl.1 (zc_X9_layBehind l D cI cZ M (nI 0) mtx len pl (nI q5) (nI r5) (nI s5) mod_ n mne mro m rrt rfr rpr mrod rn9 mrne mrro rm9 mrp mpg mbk ac mke mik cr mrw mrd sd mtr mwo mnx jr g f t8 p (d - i - 1) w (by first | omega | assumption) (by first | omega | assumption) (by first | omega | assumption) (by first | omega | assumption) (by first | omega | assumption) (by first | omega | assumption)) zm867 zm868 zm25 zm39 zm869 ⟨rfl, zd_X9_layBehind⟩ ⟨Nat.le_of_ble_eq_true rfl, Nat.le_of_ble_eq_true rfl⟩ ⟨Nat.zero_le _, Nat.zero_le _⟩ [0, 2, 3] rfl (by decide) rfl rfl rfl (fun _ => rfl) rfl (Nat.le_of_ble_eq_true rfl) rfl dX9_least_59 (fun u H locs h_24 hP hD hS => ?_)
          obtain ⟨t2_25, rfl⟩ : ∃ z, z = u := ⟨_, rfl⟩
          have hP : va_P D vwCl [(M, .inr (9, [.int (nI 0), .ref mtx, .int (nI len), .int (nI pl), .int (nI q5), .int (nI r5), .int (nI s5), .ref mod_, .int (nI n), .ref mne, .ref mro, .int (nI m), .int rrt, .int rfr, .int rpr, .ref mrod, .int (nI rn9), .ref mrne, .ref mrro, .int (nI rm9), .ref mrp, .ref mpg, .ref mbk, .int (nI ac), .ref mke, .ref mik, .int (nI cr), .ref mrw, .ref mrd, .long sd, .ref mtr, .ref mwo, .ref mnx, .int jr])), (mod_, .inl (cI, 4, .inl od)), (mpg, .inl (cI, 36, .inl g)), (mtr, .inl (cI, 36, .inl t2_25)), (mwo, .inl (cI, 64, .inl w8)), (mnx, .inl (cI, 64, .inl x9))] H := hP
          have hD : va_D A [(M, .inr (9, [.int (nI 0), .ref mtx, .int (nI len), .int (nI pl), .int (nI q5), .int (nI r5), .int (nI s5), .ref mod_, .int (nI n), .ref mne, .ref mro, .int (nI m), .int rrt, .int rfr, .int rpr, .ref mrod, .int (nI rn9), .ref mrne, .ref mrro, .int (nI rm9), .ref mrp, .ref mpg, .ref mbk, .int (nI ac), .ref mke, .ref mik, .int (nI cr), .ref mrw, .ref mrd, .long sd, .ref mtr, .ref mwo, .ref mnx, .int jr])), (mod_, .inl (cI, 4, .inl od)), (mpg, .inl (cI, 36, .inl g)), (mtr, .inl (cI, 36, .inl t2_25)), (mwo, .inl (cI, 64, .inl w8)), (mnx, .inl (cI, 64, .inl x9))] := hD
          have h_24 : ∀ j, j < 4 → t2_25 j = zpg f (nI q5) (nI r5) n (d - i - 1) w (d - i - 1) (p * 4 + j) := h_24
          have ht9 := by assumption
          refine lv_aload_n hx hb dX9_least_62 rfl (lv_at hl 2 rfl) ?_
          refine z_get (ci := 9) (v := .ref mwo) Z zin9 hP 0 rfl rfl 31 (by decide) zm708 rfl rfl dX9_least_63 ?_
          refine lv_iload hx hb dX9_least_66 (lv_at hl 0 rfl) ?_
          refine lv_aload_n hx hb dX9_least_68 rfl (lv_at hl 2 rfl) ?_
          refine lv_iload_n hx hb dX9_least_69 rfl (lv_at hl 3 rfl) ?_
          refine lv_iload hx hb dX9_least_70 (lv_at hl 1 rfl) ?_
          refine lv_iload_n hx hb dX9_least_72 rfl (lv_at hl 4 rfl) ?_
          refine lv_iload hx hb dX9_least_73 (lv_at hl 1 rfl) ?_
          refine lv_isub hx hb dX9_least_75 ?_
          refine z_top (y := nI (d - (d - i - 1))) (z_sub' (by omega)) ?_
          refine z_top (y := nI (i + 1)) (congrArg nI (by omega)) ?_
          refine lv_iload hx hb dX9_least_76 (lv_at hl 0 rfl) ?_
          have h16 : 4 ^ (d - i - 1) ≤ 16 := (Nat.pow_le_pow_right (show 0 < 4 by decide) (show d - i - 1 ≤ 2 by omega) : 4 ^ (d - i - 1) ≤ 4 ^ 2)
          have hvp := zpg_v (rt := nI q5) (fr := nI r5) (d := d - i - 1) (w := w) hpv hn (d - i - 1) p hp
          have hvd := fun z : ¬ d - i - 1 = 0 => zpg_d (f := f) (rt := nI q5) (fr := nI r5) (n := n) (w := w) (show p < 5 by omega) (show 0 < d - i - 1 by omega)
          have hvz : ∀ z : d - i - 1 = 0, (zpg f (nI q5) (nI r5) n (d - i - 1) w (d - i - 1)) = f := fun z => by rw [z]; rfl
          have hxy : ∀ k, k < 4 → (fun k => if i + 1 = 1 then 0 else x9 (4 * w + k)) k = (fun k => zLV f od (nI q5) (nI r5) (nI s5) n p d i (4 * w + k)) k := by
            intro k hk
            show (if i + 1 = 1 then 0 else x9 (4 * w + k)) = zLV f od (nI q5) (nI r5) (nI s5) n p d i (4 * w + k)
            by_cases z : i = 0
            · rw [if_pos (by omega), z]; rfl
            · rw [if_neg (by omega)]; exact hv35_1.resolve_left z _ (by omega)
          obtain ⟨cn, hcn, hcn2⟩ := zCs_nat (X := fun k => zLV f od (nI q5) (nI r5) (nI s5) n p d i (4 * w + k)) hov (fun k _ => zLV_nat hn hp hpv hov hq hr hs i (4 * w + k))
          have hcn3 := (zCs_eq (od := od) hxy 4 (Nat.le_refl 4)).trans hcn
          have hcn4 : 99 * i * 10 ^ i ≤ 19800 := by
            rcases (show i = 0 ∨ i = 1 ∨ i = 2 by omega) with z | z | z <;> rw [z] <;> decide
          have hvv : nI (10 ^ i) * (zchF (zpg f (nI q5) (nI r5) n (d - i - 1) w (d - i - 1)) od (nI q5) (nI r5) (nI s5) p).2 + nI cn = zLV f od (nI q5) (nI r5) (nI s5) n p d (i + 1) w := by
            rw [← hcn, show d - i - 1 = d - 1 - i by omega]; rfl
          refine z_callVi (As := [.int (nI p), .int (nI (d - i - 1)), .int (nI (i + 1)), .int (nI w)]) (rest := [.int (nI w), .ref mwo]) (ci := 9) (k0 := 0) Z hP hD hS hl.1 (zc_X9_dayOf l D cI cZ M (nI 0) mtx len pl mod_ n mne mro m rrt rfr rpr mrod rn9 mrne mrro rm9 mrp mpg mbk ac mke mik cr mrw mrd sd mtr mwo mnx jr q5 r5 s5 od g t2_25 x9 p (d - i - 1) i w (zpg f (nI q5) (nI r5) n (d - i - 1) w (d - i - 1)) cn (by omega) (by omega) (by omega) (by omega) (by omega) (by omega) (by omega) (by exact hov) (by exact hvp) (by assumption) (by exact fun z => by rw [hvz z]; exact (hpg.1 p hp).2.2.1) (by exact fun z => by rw [hvz z]; exact (hpg.1 p hp).2.2.2) (by exact fun z => (hvd z).1) (by exact fun z => (hvd z).2) (by exact hcn3) (by omega)) zm870 zm871 zm26 zm39 zm872 ⟨rfl, zd_X9_dayOf⟩ ⟨Nat.le_of_ble_eq_true rfl, Nat.le_of_ble_eq_true rfl⟩ ⟨Nat.zero_le _, Nat.zero_le _⟩ [0, 1, 2, 3, 5] rfl (by decide) rfl rfl rfl (fun _ => rfl) rfl (Nat.le_of_ble_eq_true rfl) rfl dX9_least_78 (fun r_26 u H locs h_27 hP hD hS => ?_)
          have hP : va_P D vwCl [(M, .inr (9, [.int (nI 0), .ref mtx, .int (nI len), .int (nI pl), .int (nI q5), .int (nI r5), .int (nI s5), .ref mod_, .int (nI n), .ref mne, .ref mro, .int (nI m), .int rrt, .int rfr, .int rpr, .ref mrod, .int (nI rn9), .ref mrne, .ref mrro, .int (nI rm9), .ref mrp, .ref mpg, .ref mbk, .int (nI ac), .ref mke, .ref mik, .int (nI cr), .ref mrw, .ref mrd, .long sd, .ref mtr, .ref mwo, .ref mnx, .int jr])), (mod_, .inl (cI, 4, .inl od)), (mpg, .inl (cI, 36, .inl g)), (mtr, .inl (cI, 36, .inl t2_25)), (mwo, .inl (cI, 64, .inl w8)), (mnx, .inl (cI, 64, .inl x9))] H := hP
          have hD : va_D A [(M, .inr (9, [.int (nI 0), .ref mtx, .int (nI len), .int (nI pl), .int (nI q5), .int (nI r5), .int (nI s5), .ref mod_, .int (nI n), .ref mne, .ref mro, .int (nI m), .int rrt, .int rfr, .int rpr, .ref mrod, .int (nI rn9), .ref mrne, .ref mrro, .int (nI rm9), .ref mrp, .ref mpg, .ref mbk, .int (nI ac), .ref mke, .ref mik, .int (nI cr), .ref mrw, .ref mrd, .long sd, .ref mtr, .ref mwo, .ref mnx, .int jr])), (mod_, .inl (cI, 4, .inl od)), (mpg, .inl (cI, 36, .inl g)), (mtr, .inl (cI, 36, .inl t2_25)), (mwo, .inl (cI, 64, .inl w8)), (mnx, .inl (cI, 64, .inl x9))] := hD
          have h_27 : r_26 = nI (10 ^ i) * (zchF (zpg f (nI q5) (nI r5) n (d - i - 1) w (d - i - 1)) od (nI q5) (nI r5) (nI s5) p).2 + nI cn := h_27
          subst h_27
          refine z_iast (n := 64) (f := w8) (j := w) (x := nI (10 ^ i) * (zchF (zpg f (nI q5) (nI r5) n (d - i - 1) w (d - i - 1)) od (nI q5) (nI r5) (nI s5) p).2 + nI cn) Z hP hD hS 4 rfl (by omega) (by decide) dX9_least_81 (fun H locs hP hD hS => ?_)
          have hP : va_P D vwCl [(M, .inr (9, [.int (nI 0), .ref mtx, .int (nI len), .int (nI pl), .int (nI q5), .int (nI r5), .int (nI s5), .ref mod_, .int (nI n), .ref mne, .ref mro, .int (nI m), .int rrt, .int rfr, .int rpr, .ref mrod, .int (nI rn9), .ref mrne, .ref mrro, .int (nI rm9), .ref mrp, .ref mpg, .ref mbk, .int (nI ac), .ref mke, .ref mik, .int (nI cr), .ref mrw, .ref mrd, .long sd, .ref mtr, .ref mwo, .ref mnx, .int jr])), (mod_, .inl (cI, 4, .inl od)), (mpg, .inl (cI, 36, .inl g)), (mtr, .inl (cI, 36, .inl t2_25)), (mwo, .inl (cI, 64, .inl (upd w8 w (nI (10 ^ i) * (zchF (zpg f (nI q5) (nI r5) n (d - i - 1) w (d - i - 1)) od (nI q5) (nI r5) (nI s5) p).2 + nI cn)))), (mnx, .inl (cI, 64, .inl x9))] H := hP
          have hD : va_D A [(M, .inr (9, [.int (nI 0), .ref mtx, .int (nI len), .int (nI pl), .int (nI q5), .int (nI r5), .int (nI s5), .ref mod_, .int (nI n), .ref mne, .ref mro, .int (nI m), .int rrt, .int rfr, .int rpr, .ref mrod, .int (nI rn9), .ref mrne, .ref mrro, .int (nI rm9), .ref mrp, .ref mpg, .ref mbk, .int (nI ac), .ref mke, .ref mik, .int (nI cr), .ref mrw, .ref mrd, .long sd, .ref mtr, .ref mwo, .ref mnx, .int jr])), (mod_, .inl (cI, 4, .inl od)), (mpg, .inl (cI, 36, .inl g)), (mtr, .inl (cI, 36, .inl t2_25)), (mwo, .inl (cI, 64, .inl (upd w8 w (nI (10 ^ i) * (zchF (zpg f (nI q5) (nI r5) n (d - i - 1) w (d - i - 1)) od (nI q5) (nI r5) (nI s5) p).2 + nI cn)))), (mnx, .inl (cI, 64, .inl x9))] := hD
          refine lv_iinc (v := nI (w + 1)) (lv' := [(5, .int (nI (w + 1))), (4, .int (nI (d - i - 1))), (0, .ref M), (1, .int (nI p)), (2, .int (nI d)), (3, .int u1)]) hx hb dX9_least_82 hl (k := 0) rfl (z_inc _ 1) (by decide) rfl (fun ls hl => ?_)
          refine lv_goto (tgt := 43) hx hb dX9_least_85 (by decide) ?_
          have hl : lv_has ls 6 [(5, .int (nI (w + 1))), (4, .int (nI (d - i - 1))), (0, .ref M), (1, .int (nI p)), (2, .int (nI d)), (3, .int u1)] := lv_sub hl [0, 1, 2, 3, 4, 5] rfl
          exact ih_14 (w + 1, t2_25, upd w8 w (nI (10 ^ i) * (zchF (zpg f (nI q5) (nI r5) n (d - i - 1) w (d - i - 1)) od (nI q5) (nI r5) (nI s5) p).2 + nI cn)) _ _ _ (by omega) ⟨hP, hD, hS, hl, (by first | omega | exact zcpr_s hv43_1 hvv), (by first | omega | exact zcpr_s hv43_1 hvv)⟩
    · have c_6 := zb0 c_6
      have hrgn := fun q => c_6 ((zinr (x := x2) 1 3 rfl rfl).mpr q)
      refine lv_bipush (v := -2) hx hb dX9_least_27 (by decide) ?_
      exact z_iret Z (t, wo, nx) (by first | rw [zPa_n (by assumption)] | (rw [zPa_y hp hn]; first | rw [zRa_n hrgn] | (rw [zRa_y hd0 hd (by decide), hzq, nI_clamp hq9])) | rfl) hP hS dX9_least_29
  · have c_3 := zb1 c_3
    refine lv_iconst (v := -1) hx hb dX9_least_13 (by decide) ?_
    exact z_iret Z (t, wo, nx) (by first | rw [zPa_n (by assumption)] | (rw [zPa_y hp hn]; first | rw [zRa_n hrgn] | (rw [zRa_y hd0 hd (by decide), hzq, nI_clamp hq9])) | rfl) hP hS dX9_least_14
