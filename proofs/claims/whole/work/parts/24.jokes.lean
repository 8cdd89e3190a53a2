theorem zJA_n {f : Nat → Int32} {rt fr : Int32} {n p d : Nat} {jr : Int32} {x : Int32} (h : (zsj f rt fr n p d jr (4 ^ d)).1 = -9) : zJA f rt fr n p d x = -9 := by
  unfold zJA
  have e := (zsj_jr (f := f) (rt := rt) (fr := fr) (n := n) (p := p) (d := d) (jr := jr) (j2 := 0) (4 ^ d)).1
  rw [← e, if_pos h]; split <;> rfl
theorem zJA_h {f : Nat → Int32} {rt fr : Int32} {n p d : Nat} {x : Int32} (h : ¬ zhas d x) : zJA f rt fr n p d x = -9 := by
  unfold zJA; rw [if_neg h]
theorem zJA_y {f : Nat → Int32} {rt fr : Int32} {n p d i q : Nat} {jr : Int32} (h : ¬ (zsj f rt fr n p d jr (4 ^ d)).1 = -9) (hq : (zsj f rt fr n p d jr (4 ^ d)).2 = nI q) (hq2 : q < 256) (hi : i < d) (hd : d ≤ 4) : zJA f rt fr n p d (nI i) = nI (zki q d i) := by
  unfold zJA
  have e := zsj_jr (f := f) (rt := rt) (fr := fr) (n := n) (p := p) (d := d) (jr := jr) (j2 := 0) (4 ^ d)
  rw [if_pos (zhas_nat hi (by omega)), ← e.1, if_neg h, ← e.2.resolve_left h, hq, nI_clamp (by omega), nI_clamp (by omega)]
theorem dX9_joke_0 : decode cX9_joke 0 = .ok (.aload_n 0, 1) := by decide +kernel
theorem dX9_joke_1 : decode cX9_joke 1 = .ok (.iconst 0, 1) := by decide +kernel
theorem dX9_joke_2 : decode cX9_joke 2 = .ok (.putfield 62, 3) := by decide +kernel
theorem dX9_joke_5 : decode cX9_joke 5 = .ok (.aload_n 0, 1) := by decide +kernel
theorem dX9_joke_6 : decode cX9_joke 6 = .ok (.iload_n 1, 1) := by decide +kernel
theorem dX9_joke_7 : decode cX9_joke 7 = .ok (.invokevirtual 147, 3) := by decide +kernel
theorem dX9_joke_10 : decode cX9_joke 10 = .ok (.ifCond .eq 7, 3) := by decide +kernel
theorem dX9_joke_13 : decode cX9_joke 13 = .ok (.iconst (-1), 1) := by decide +kernel
theorem dX9_joke_14 : decode cX9_joke 14 = .ok (.goto 26, 3) := by decide +kernel
theorem dX9_joke_17 : decode cX9_joke 17 = .ok (.iload_n 2, 1) := by decide +kernel
theorem dX9_joke_18 : decode cX9_joke 18 = .ok (.i2l, 1) := by decide +kernel
theorem dX9_joke_19 : decode cX9_joke 19 = .ok (.lconst 1, 1) := by decide +kernel
theorem dX9_joke_20 : decode cX9_joke 20 = .ok (.ldc2_w 207, 3) := by decide +kernel
theorem dX9_joke_23 : decode cX9_joke 23 = .ok (.invokestatic 69, 3) := by decide +kernel
theorem dX9_joke_26 : decode cX9_joke 26 = .ok (.ifCond .eq 12, 3) := by decide +kernel
theorem dX9_joke_29 : decode cX9_joke 29 = .ok (.aload_n 0, 1) := by decide +kernel
theorem dX9_joke_30 : decode cX9_joke 30 = .ok (.iload_n 1, 1) := by decide +kernel
theorem dX9_joke_31 : decode cX9_joke 31 = .ok (.iload_n 2, 1) := by decide +kernel
theorem dX9_joke_32 : decode cX9_joke 32 = .ok (.invokevirtual 209, 3) := by decide +kernel
theorem dX9_joke_35 : decode cX9_joke 35 = .ok (.goto 5, 3) := by decide +kernel
theorem dX9_joke_38 : decode cX9_joke 38 = .ok (.bipush (-2), 2) := by decide +kernel
theorem dX9_joke_40 : decode cX9_joke 40 = .ok (.ireturn, 1) := by decide +kernel
theorem zd_X9_joke : yX9_joke.cls ≠ "java/lang/invoke/MethodHandle" ∧ yX9_joke.cls ≠ "java/lang/invoke/VarHandle" ∧ (parseMethodDescriptor yX9_joke.desc).map (fun d => d.parameters.length) = some 2 := by decide +kernel
set_option maxHeartbeats 4000000 in
set_option maxRecDepth 100000 in
theorem zc_X9_joke (l : Launch) (D : va_G) (cI cZ : ClassId) (M : Nat) (th : Int32) (mtx : Nat) (len : Nat) (pl : Nat) (rt : Int32) (fr : Int32) (pr : Int32) (mod_ : Nat) (n : Nat) (mne : Nat) (mro : Nat) (m : Nat) (rrt : Int32) (rfr : Int32) (rpr : Int32) (mrod : Nat) (rn9 : Nat) (mrne : Nat) (mrro : Nat) (rm9 : Nat) (mrp : Nat) (mpg : Nat) (mbk : Nat) (ac : Nat) (mke : Nat) (mik : Nat) (cr : Nat) (mrw : Nat) (mrd : Nat) (sd : Int64) (mtr : Nat) (mwo : Nat) (mnx : Nat) (jr : Int32) (g : Nat → Int32) (f : Nat → Int32) (t : Nat → Int32) (x1 : Int32) (x2 : Int32) (hn : n ≤ 5) (hpg : zpr n f g) (hpv : zpv n f) : zI l yX9_joke cX9_joke 3 .int 4 102 D cI cZ [.ref M, .int x1, .int x2] [(M, .inr (9, [.int th, .ref mtx, .int (nI len), .int (nI pl), .int rt, .int fr, .int pr, .ref mod_, .int (nI n), .ref mne, .ref mro, .int (nI m), .int rrt, .int rfr, .int rpr, .ref mrod, .int (nI rn9), .ref mrne, .ref mrro, .int (nI rm9), .ref mrp, .ref mpg, .ref mbk, .int (nI ac), .ref mke, .ref mik, .int (nI cr), .ref mrw, .ref mrd, .long sd, .ref mtr, .ref mwo, .ref mnx, .int jr])), (mpg, .inl (cI, 36, .inl g)), (mtr, .inl (cI, 36, .inl t))] (fun (r : Int32) (u : (Nat → Int32) × Int32) => r = zPa n x1 (fun p => zRa 1 4 x2 (fun d => (zsj f rt fr n p d 0 (4 ^ d)).1) (-2)) (-1)) (fun (u : (Nat → Int32) × Int32) => [(M, .inr (9, [.int (nI 0), .ref mtx, .int (nI len), .int (nI pl), .int rt, .int fr, .int pr, .ref mod_, .int (nI n), .ref mne, .ref mro, .int (nI m), .int rrt, .int rfr, .int rpr, .ref mrod, .int (nI rn9), .ref mrne, .ref mrro, .int (nI rm9), .ref mrp, .ref mpg, .ref mbk, .int (nI ac), .ref mke, .ref mik, .int (nI cr), .ref mrw, .ref mrd, .long sd, .ref mtr, .ref mwo, .ref mnx, .int u.2])), (mpg, .inl (cI, 36, .inl g)), (mtr, .inl (cI, 36, .inl u.1))]) := by
  refine zI_of (by decide) (Nat.le_of_ble_eq_true rfl) ?_
  intro pP eE sS mM aA bB mT cC A ls Z hP hD hS hl
  have hx := Z.1
  have hb := Z.2.1
  have hown := Z.2.2.2.2.2.1
  have hts := Z.2.2.2.2.1
  have Z : zAt pP sS mM aA mT cC D cI cZ A "SurpriseTaxModel" cX9_joke 3 (some .int) := Z
  have hl : lv_has ls 3 [(0, .ref M), (1, .int x1), (2, .int x2)] := hl
  obtain ⟨H, hH⟩ : ∃ H, H = sS.heap := ⟨_, rfl⟩
  have hP : va_P D vwCl [(M, .inr (9, [.int th, .ref mtx, .int (nI len), .int (nI pl), .int rt, .int fr, .int pr, .ref mod_, .int (nI n), .ref mne, .ref mro, .int (nI m), .int rrt, .int rfr, .int rpr, .ref mrod, .int (nI rn9), .ref mrne, .ref mrro, .int (nI rm9), .ref mrp, .ref mpg, .ref mbk, .int (nI ac), .ref mke, .ref mik, .int (nI cr), .ref mrw, .ref mrd, .long sd, .ref mtr, .ref mwo, .ref mnx, .int jr])), (mpg, .inl (cI, 36, .inl g)), (mtr, .inl (cI, 36, .inl t))] H := by rw [hH]; exact hP
  have hS : va_S A sS.heap H [] := by rw [hH]; exact hS
  rw [← hH]
  clear hH
  obtain ⟨locs, hlo⟩ : ∃ q : List Loc, q = [] := ⟨_, rfl⟩
  rw [← hlo] at hS ⊢
  clear hlo
  refine lv_aload_n hx hb dX9_joke_0 rfl (lv_at hl 0 rfl) ?_
  refine lv_iconst (v := nI 0) hx hb dX9_joke_1 (by decide) ?_
  refine z_put (ci := 9) (v := .int (nI 0)) Z zin9 tyX9 tyX9_ok nmX9 hP hD hS 0 rfl rfl 0 (by decide) zm677 rfl rfl rfl rfl (Nat.le_of_ble_eq_true rfl) dX9_joke_2 (fun H locs hP hD hS => ?_)
  have hP : va_P D vwCl [(M, .inr (9, [.int (nI 0), .ref mtx, .int (nI len), .int (nI pl), .int rt, .int fr, .int pr, .ref mod_, .int (nI n), .ref mne, .ref mro, .int (nI m), .int rrt, .int rfr, .int rpr, .ref mrod, .int (nI rn9), .ref mrne, .ref mrro, .int (nI rm9), .ref mrp, .ref mpg, .ref mbk, .int (nI ac), .ref mke, .ref mik, .int (nI cr), .ref mrw, .ref mrd, .long sd, .ref mtr, .ref mwo, .ref mnx, .int jr])), (mpg, .inl (cI, 36, .inl g)), (mtr, .inl (cI, 36, .inl t))] H := hP
  have hD : va_D A [(M, .inr (9, [.int (nI 0), .ref mtx, .int (nI len), .int (nI pl), .int rt, .int fr, .int pr, .ref mod_, .int (nI n), .ref mne, .ref mro, .int (nI m), .int rrt, .int rfr, .int rpr, .ref mrod, .int (nI rn9), .ref mrne, .ref mrro, .int (nI rm9), .ref mrp, .ref mpg, .ref mbk, .int (nI ac), .ref mke, .ref mik, .int (nI cr), .ref mrw, .ref mrd, .long sd, .ref mtr, .ref mwo, .ref mnx, .int jr])), (mpg, .inl (cI, 36, .inl g)), (mtr, .inl (cI, 36, .inl t))] := hD
  refine lv_aload_n hx hb dX9_joke_5 rfl (lv_at hl 0 rfl) ?_
  refine lv_iload_n hx hb dX9_joke_6 rfl (lv_at hl 1 rfl) ?_
  refine z_callVi (As := [.int x1]) (rest := []) (ci := 9) (k0 := 0) Z hP hD hS hl.1 (zc_X9_noOne l D cI cZ M (nI 0) mtx len pl rt fr pr mod_ n mne mro m rrt rfr rpr mrod rn9 mrne mrro rm9 mrp mpg mbk ac mke mik cr mrw mrd sd mtr mwo mnx jr x1 (by omega)) zm797 zm798 zm19 zm39 zm799 ⟨rfl, zd_X9_noOne⟩ ⟨Nat.le_of_ble_eq_true rfl, Nat.le_of_ble_eq_true rfl⟩ ⟨Nat.zero_le _, Nat.zero_le _⟩ [0] rfl (by decide) rfl rfl rfl (fun _ => rfl) rfl (Nat.le_of_ble_eq_true rfl) rfl dX9_joke_7 (fun r_1 u H locs h_2 hP hD hS => ?_)
  have hP : va_P D vwCl [(M, .inr (9, [.int (nI 0), .ref mtx, .int (nI len), .int (nI pl), .int rt, .int fr, .int pr, .ref mod_, .int (nI n), .ref mne, .ref mro, .int (nI m), .int rrt, .int rfr, .int rpr, .ref mrod, .int (nI rn9), .ref mrne, .ref mrro, .int (nI rm9), .ref mrp, .ref mpg, .ref mbk, .int (nI ac), .ref mke, .ref mik, .int (nI cr), .ref mrw, .ref mrd, .long sd, .ref mtr, .ref mwo, .ref mnx, .int jr])), (mpg, .inl (cI, 36, .inl g)), (mtr, .inl (cI, 36, .inl t))] H := hP
  have hD : va_D A [(M, .inr (9, [.int (nI 0), .ref mtx, .int (nI len), .int (nI pl), .int rt, .int fr, .int pr, .ref mod_, .int (nI n), .ref mne, .ref mro, .int (nI m), .int rrt, .int rfr, .int rpr, .ref mrod, .int (nI rn9), .ref mrne, .ref mrro, .int (nI rm9), .ref mrp, .ref mpg, .ref mbk, .int (nI ac), .ref mke, .ref mik, .int (nI cr), .ref mrw, .ref mrd, .long sd, .ref mtr, .ref mwo, .ref mnx, .int jr])), (mpg, .inl (cI, 36, .inl g)), (mtr, .inl (cI, 36, .inl t))] := hD
  have h_2 : r_1 = if ¬ zhas n x1 then 1 else 0 := h_2
  subst h_2
  refine lv_if_eq (tgt := 17) hx hb dX9_joke_10 (by decide) (fun c_3 => ?_) (fun c_3 => ?_)
  · have c_3 := zb0 c_3
    have hzz := Classical.not_not.mp c_3
    obtain ⟨p, hp, rfl⟩ := zhas_of (by omega) hzz
    refine lv_iload_n hx hb dX9_joke_17 rfl (lv_at hl 2 rfl) ?_
    refine lv_i2l (v := x2.toInt64) hx hb dX9_joke_18 rfl ?_
    refine lv_lconst (v := 1) hx hb dX9_joke_19 (by decide) ?_
    refine lv_ldc2 (v := 4) hx hb hown (hts _ zm880) dX9_joke_20 ?_
    refine z_callSi (As := [.long x2.toInt64, .long 1, .long 4]) (rest := []) Z hP hD hS hl.1 (zc_X9_in l D cI cZ x2.toInt64 1 4 ) zm750 zm751 zm39 zm752 zd_X9_in ⟨Nat.le_of_ble_eq_true rfl, Nat.le_of_ble_eq_true rfl⟩ ⟨Nat.zero_le _, Nat.zero_le _⟩ [] rfl (by decide) (fun _ => rfl) rfl (Nat.le_of_ble_eq_true rfl) rfl dX9_joke_23 (fun r_4 u H locs h_5 hP hD hS => ?_)
    have hP : va_P D vwCl [(M, .inr (9, [.int (nI 0), .ref mtx, .int (nI len), .int (nI pl), .int rt, .int fr, .int pr, .ref mod_, .int (nI n), .ref mne, .ref mro, .int (nI m), .int rrt, .int rfr, .int rpr, .ref mrod, .int (nI rn9), .ref mrne, .ref mrro, .int (nI rm9), .ref mrp, .ref mpg, .ref mbk, .int (nI ac), .ref mke, .ref mik, .int (nI cr), .ref mrw, .ref mrd, .long sd, .ref mtr, .ref mwo, .ref mnx, .int jr])), (mpg, .inl (cI, 36, .inl g)), (mtr, .inl (cI, 36, .inl t))] H := hP
    have hD : va_D A [(M, .inr (9, [.int (nI 0), .ref mtx, .int (nI len), .int (nI pl), .int rt, .int fr, .int pr, .ref mod_, .int (nI n), .ref mne, .ref mro, .int (nI m), .int rrt, .int rfr, .int rpr, .ref mrod, .int (nI rn9), .ref mrne, .ref mrro, .int (nI rm9), .ref mrp, .ref mpg, .ref mbk, .int (nI ac), .ref mke, .ref mik, .int (nI cr), .ref mrw, .ref mrd, .long sd, .ref mtr, .ref mwo, .ref mnx, .int jr])), (mpg, .inl (cI, 36, .inl g)), (mtr, .inl (cI, 36, .inl t))] := hD
    have h_5 : r_4 = if ¬ x2.toInt64 < 1 ∧ ¬ 4 < x2.toInt64 then 1 else 0 := h_5
    subst h_5
    refine lv_if_eq (tgt := 38) hx hb dX9_joke_26 (by decide) (fun c_6 => ?_) (fun c_6 => ?_)
    · have c_6 := zb0 c_6
      have hrgn := fun q => c_6 ((zinr (x := x2) 1 4 rfl rfl).mpr q)
      refine lv_bipush (v := -2) hx hb dX9_joke_38 (by decide) ?_
      exact z_iret Z (t, jr) (by first | rw [zPa_n (by assumption)] | (rw [zPa_y hp hn]; first | rw [zRa_n hrgn] | (rw [zRa_y hd0 hd (by decide)]; exact (zsj_jr (4 ^ d)).1)) | rfl) hP hS dX9_joke_40
    · have c_6 := zb1 c_6
      have hrg := (zinr (x := x2) 1 4 rfl rfl).mp c_6
      obtain ⟨d, hd0, hd, rfl⟩ := zRa_of (lo := 1) (hi := 4) (by decide) (by decide) hrg.1 hrg.2
      refine lv_aload_n hx hb dX9_joke_29 rfl (lv_at hl 0 rfl) ?_
      refine lv_iload_n hx hb dX9_joke_30 rfl (lv_at hl 1 rfl) ?_
      refine lv_iload_n hx hb dX9_joke_31 rfl (lv_at hl 2 rfl) ?_
      refine z_callVi (As := [.int (nI p), .int (nI d)]) (rest := []) (ci := 9) (k0 := 0) Z hP hD hS hl.1 (zc_X9_findJoke l D cI cZ M (nI 0) mtx len pl rt fr pr mod_ n mne mro m rrt rfr rpr mrod rn9 mrne mrro rm9 mrp mpg mbk ac mke mik cr mrw mrd sd mtr mwo mnx jr g f t p d (by omega) (by omega) (by omega) (by omega) (by omega) (by omega)) zm881 zm882 zm27 zm39 zm883 ⟨rfl, zd_X9_findJoke⟩ ⟨Nat.le_of_ble_eq_true rfl, Nat.le_of_ble_eq_true rfl⟩ ⟨Nat.zero_le _, Nat.zero_le _⟩ [0, 1, 2] rfl (by decide) rfl rfl rfl (fun _ => rfl) rfl (Nat.le_of_ble_eq_true rfl) rfl dX9_joke_32 (fun r_7 u H locs h_8 hP hD hS => ?_)
      obtain ⟨g2_9, rfl⟩ : ∃ z, z = u := ⟨_, rfl⟩
      have hP : va_P D vwCl [(M, .inr (9, [.int (nI 0), .ref mtx, .int (nI len), .int (nI pl), .int rt, .int fr, .int pr, .ref mod_, .int (nI n), .ref mne, .ref mro, .int (nI m), .int rrt, .int rfr, .int rpr, .ref mrod, .int (nI rn9), .ref mrne, .ref mrro, .int (nI rm9), .ref mrp, .ref mpg, .ref mbk, .int (nI ac), .ref mke, .ref mik, .int (nI cr), .ref mrw, .ref mrd, .long sd, .ref mtr, .ref mwo, .ref mnx, .int ((zsj f rt fr n p d jr (4 ^ d)).2)])), (mpg, .inl (cI, 36, .inl g)), (mtr, .inl (cI, 36, .inl g2_9))] H := hP
      have hD : va_D A [(M, .inr (9, [.int (nI 0), .ref mtx, .int (nI len), .int (nI pl), .int rt, .int fr, .int pr, .ref mod_, .int (nI n), .ref mne, .ref mro, .int (nI m), .int rrt, .int rfr, .int rpr, .ref mrod, .int (nI rn9), .ref mrne, .ref mrro, .int (nI rm9), .ref mrp, .ref mpg, .ref mbk, .int (nI ac), .ref mke, .ref mik, .int (nI cr), .ref mrw, .ref mrd, .long sd, .ref mtr, .ref mwo, .ref mnx, .int ((zsj f rt fr n p d jr (4 ^ d)).2)])), (mpg, .inl (cI, 36, .inl g)), (mtr, .inl (cI, 36, .inl g2_9))] := hD
      have h_8 : r_7 = (zsj f rt fr n p d jr (4 ^ d)).1 := h_8
      subst h_8
      refine lv_goto (tgt := 40) hx hb dX9_joke_35 (by decide) ?_
      exact z_iret Z (g2_9, (zsj f rt fr n p d jr (4 ^ d)).2) (by first | rw [zPa_n (by assumption)] | (rw [zPa_y hp hn]; first | rw [zRa_n hrgn] | (rw [zRa_y hd0 hd (by decide)]; exact (zsj_jr (4 ^ d)).1)) | rfl) hP hS dX9_joke_40
  · have c_3 := zb1 c_3
    refine lv_iconst (v := -1) hx hb dX9_joke_13 (by decide) ?_
    refine lv_goto (tgt := 40) hx hb dX9_joke_14 (by decide) ?_
    exact z_iret Z (t, jr) (by first | rw [zPa_n (by assumption)] | (rw [zPa_y hp hn]; first | rw [zRa_n hrgn] | (rw [zRa_y hd0 hd (by decide)]; exact (zsj_jr (4 ^ d)).1)) | rfl) hP hS dX9_joke_40

theorem dX9_jokeAt_0 : decode cX9_jokeAt 0 = .ok (.aload_n 0, 1) := by decide +kernel
theorem dX9_jokeAt_1 : decode cX9_jokeAt 1 = .ok (.iconst 0, 1) := by decide +kernel
theorem dX9_jokeAt_2 : decode cX9_jokeAt 2 = .ok (.putfield 62, 3) := by decide +kernel
theorem dX9_jokeAt_5 : decode cX9_jokeAt 5 = .ok (.aload_n 0, 1) := by decide +kernel
theorem dX9_jokeAt_6 : decode cX9_jokeAt 6 = .ok (.iload_n 1, 1) := by decide +kernel
theorem dX9_jokeAt_7 : decode cX9_jokeAt 7 = .ok (.invokevirtual 147, 3) := by decide +kernel
theorem dX9_jokeAt_10 : decode cX9_jokeAt 10 = .ok (.ifCond .eq 5, 3) := by decide +kernel
theorem dX9_jokeAt_13 : decode cX9_jokeAt 13 = .ok (.iconst (-1), 1) := by decide +kernel
theorem dX9_jokeAt_14 : decode cX9_jokeAt 14 = .ok (.ireturn, 1) := by decide +kernel
theorem dX9_jokeAt_15 : decode cX9_jokeAt 15 = .ok (.iload_n 2, 1) := by decide +kernel
theorem dX9_jokeAt_16 : decode cX9_jokeAt 16 = .ok (.i2l, 1) := by decide +kernel
theorem dX9_jokeAt_17 : decode cX9_jokeAt 17 = .ok (.lconst 1, 1) := by decide +kernel
theorem dX9_jokeAt_18 : decode cX9_jokeAt 18 = .ok (.ldc2_w 207, 3) := by decide +kernel
theorem dX9_jokeAt_21 : decode cX9_jokeAt 21 = .ok (.invokestatic 69, 3) := by decide +kernel
theorem dX9_jokeAt_24 : decode cX9_jokeAt 24 = .ok (.ifCond .ne 6, 3) := by decide +kernel
theorem dX9_jokeAt_27 : decode cX9_jokeAt 27 = .ok (.bipush (-2), 2) := by decide +kernel
theorem dX9_jokeAt_29 : decode cX9_jokeAt 29 = .ok (.ireturn, 1) := by decide +kernel
theorem dX9_jokeAt_30 : decode cX9_jokeAt 30 = .ok (.aload_n 0, 1) := by decide +kernel
theorem dX9_jokeAt_31 : decode cX9_jokeAt 31 = .ok (.iload_n 1, 1) := by decide +kernel
theorem dX9_jokeAt_32 : decode cX9_jokeAt 32 = .ok (.iload_n 2, 1) := by decide +kernel
theorem dX9_jokeAt_33 : decode cX9_jokeAt 33 = .ok (.invokevirtual 209, 3) := by decide +kernel
theorem dX9_jokeAt_36 : decode cX9_jokeAt 36 = .ok (.bipush (-9), 2) := by decide +kernel
theorem dX9_jokeAt_38 : decode cX9_jokeAt 38 = .ok (.if_icmp .eq 34, 3) := by decide +kernel
theorem dX9_jokeAt_41 : decode cX9_jokeAt 41 = .ok (.iload_n 3, 1) := by decide +kernel
theorem dX9_jokeAt_42 : decode cX9_jokeAt 42 = .ok (.i2l, 1) := by decide +kernel
theorem dX9_jokeAt_43 : decode cX9_jokeAt 43 = .ok (.lconst 0, 1) := by decide +kernel
theorem dX9_jokeAt_44 : decode cX9_jokeAt 44 = .ok (.iload_n 2, 1) := by decide +kernel
theorem dX9_jokeAt_45 : decode cX9_jokeAt 45 = .ok (.iconst 1, 1) := by decide +kernel
theorem dX9_jokeAt_46 : decode cX9_jokeAt 46 = .ok (.isub, 1) := by decide +kernel
theorem dX9_jokeAt_47 : decode cX9_jokeAt 47 = .ok (.i2l, 1) := by decide +kernel
theorem dX9_jokeAt_48 : decode cX9_jokeAt 48 = .ok (.invokestatic 69, 3) := by decide +kernel
theorem dX9_jokeAt_51 : decode cX9_jokeAt 51 = .ok (.ifCond .eq 21, 3) := by decide +kernel
theorem dX9_jokeAt_54 : decode cX9_jokeAt 54 = .ok (.aload_n 0, 1) := by decide +kernel
theorem dX9_jokeAt_55 : decode cX9_jokeAt 55 = .ok (.getfield 204, 3) := by decide +kernel
theorem dX9_jokeAt_58 : decode cX9_jokeAt 58 = .ok (.iload_n 2, 1) := by decide +kernel
theorem dX9_jokeAt_59 : decode cX9_jokeAt 59 = .ok (.iconst 1, 1) := by decide +kernel
theorem dX9_jokeAt_60 : decode cX9_jokeAt 60 = .ok (.isub, 1) := by decide +kernel
theorem dX9_jokeAt_61 : decode cX9_jokeAt 61 = .ok (.iload_n 3, 1) := by decide +kernel
theorem dX9_jokeAt_62 : decode cX9_jokeAt 62 = .ok (.isub, 1) := by decide +kernel
theorem dX9_jokeAt_63 : decode cX9_jokeAt 63 = .ok (.invokestatic 187, 3) := by decide +kernel
theorem dX9_jokeAt_66 : decode cX9_jokeAt 66 = .ok (.idiv, 1) := by decide +kernel
theorem dX9_jokeAt_67 : decode cX9_jokeAt 67 = .ok (.iconst 4, 1) := by decide +kernel
theorem dX9_jokeAt_68 : decode cX9_jokeAt 68 = .ok (.irem, 1) := by decide +kernel
theorem dX9_jokeAt_69 : decode cX9_jokeAt 69 = .ok (.goto 5, 3) := by decide +kernel
theorem dX9_jokeAt_72 : decode cX9_jokeAt 72 = .ok (.bipush (-9), 2) := by decide +kernel
theorem dX9_jokeAt_74 : decode cX9_jokeAt 74 = .ok (.ireturn, 1) := by decide +kernel
theorem zd_X9_jokeAt : yX9_jokeAt.cls ≠ "java/lang/invoke/MethodHandle" ∧ yX9_jokeAt.cls ≠ "java/lang/invoke/VarHandle" ∧ (parseMethodDescriptor yX9_jokeAt.desc).map (fun d => d.parameters.length) = some 3 := by decide +kernel
set_option maxHeartbeats 4000000 in
set_option maxRecDepth 100000 in
theorem zc_X9_jokeAt (l : Launch) (D : va_G) (cI cZ : ClassId) (M : Nat) (th : Int32) (mtx : Nat) (len : Nat) (pl : Nat) (rt : Int32) (fr : Int32) (pr : Int32) (mod_ : Nat) (n : Nat) (mne : Nat) (mro : Nat) (m : Nat) (rrt : Int32) (rfr : Int32) (rpr : Int32) (mrod : Nat) (rn9 : Nat) (mrne : Nat) (mrro : Nat) (rm9 : Nat) (mrp : Nat) (mpg : Nat) (mbk : Nat) (ac : Nat) (mke : Nat) (mik : Nat) (cr : Nat) (mrw : Nat) (mrd : Nat) (sd : Int64) (mtr : Nat) (mwo : Nat) (mnx : Nat) (jr : Int32) (g : Nat → Int32) (f : Nat → Int32) (t : Nat → Int32) (x1 : Int32) (x2 : Int32) (x3 : Int32) (hn : n ≤ 5) (hpg : zpr n f g) (hpv : zpv n f) : zI l yX9_jokeAt cX9_jokeAt 4 .int 4 102 D cI cZ [.ref M, .int x1, .int x2, .int x3] [(M, .inr (9, [.int th, .ref mtx, .int (nI len), .int (nI pl), .int rt, .int fr, .int pr, .ref mod_, .int (nI n), .ref mne, .ref mro, .int (nI m), .int rrt, .int rfr, .int rpr, .ref mrod, .int (nI rn9), .ref mrne, .ref mrro, .int (nI rm9), .ref mrp, .ref mpg, .ref mbk, .int (nI ac), .ref mke, .ref mik, .int (nI cr), .ref mrw, .ref mrd, .long sd, .ref mtr, .ref mwo, .ref mnx, .int jr])), (mpg, .inl (cI, 36, .inl g)), (mtr, .inl (cI, 36, .inl t))] (fun (r : Int32) (u : (Nat → Int32) × Int32) => r = zPa n x1 (fun p => zRa 1 4 x2 (fun d => zJA f rt fr n p d x3) (-2)) (-1)) (fun (u : (Nat → Int32) × Int32) => [(M, .inr (9, [.int (nI 0), .ref mtx, .int (nI len), .int (nI pl), .int rt, .int fr, .int pr, .ref mod_, .int (nI n), .ref mne, .ref mro, .int (nI m), .int rrt, .int rfr, .int rpr, .ref mrod, .int (nI rn9), .ref mrne, .ref mrro, .int (nI rm9), .ref mrp, .ref mpg, .ref mbk, .int (nI ac), .ref mke, .ref mik, .int (nI cr), .ref mrw, .ref mrd, .long sd, .ref mtr, .ref mwo, .ref mnx, .int u.2])), (mpg, .inl (cI, 36, .inl g)), (mtr, .inl (cI, 36, .inl u.1))]) := by
  refine zI_of (by decide) (Nat.le_of_ble_eq_true rfl) ?_
  intro pP eE sS mM aA bB mT cC A ls Z hP hD hS hl
  have hx := Z.1
  have hb := Z.2.1
  have hown := Z.2.2.2.2.2.1
  have hts := Z.2.2.2.2.1
  have Z : zAt pP sS mM aA mT cC D cI cZ A "SurpriseTaxModel" cX9_jokeAt 4 (some .int) := Z
  have hl : lv_has ls 4 [(0, .ref M), (1, .int x1), (2, .int x2), (3, .int x3)] := hl
  obtain ⟨H, hH⟩ : ∃ H, H = sS.heap := ⟨_, rfl⟩
  have hP : va_P D vwCl [(M, .inr (9, [.int th, .ref mtx, .int (nI len), .int (nI pl), .int rt, .int fr, .int pr, .ref mod_, .int (nI n), .ref mne, .ref mro, .int (nI m), .int rrt, .int rfr, .int rpr, .ref mrod, .int (nI rn9), .ref mrne, .ref mrro, .int (nI rm9), .ref mrp, .ref mpg, .ref mbk, .int (nI ac), .ref mke, .ref mik, .int (nI cr), .ref mrw, .ref mrd, .long sd, .ref mtr, .ref mwo, .ref mnx, .int jr])), (mpg, .inl (cI, 36, .inl g)), (mtr, .inl (cI, 36, .inl t))] H := by rw [hH]; exact hP
  have hS : va_S A sS.heap H [] := by rw [hH]; exact hS
  rw [← hH]
  clear hH
  obtain ⟨locs, hlo⟩ : ∃ q : List Loc, q = [] := ⟨_, rfl⟩
  rw [← hlo] at hS ⊢
  clear hlo
  refine lv_aload_n hx hb dX9_jokeAt_0 rfl (lv_at hl 0 rfl) ?_
  refine lv_iconst (v := nI 0) hx hb dX9_jokeAt_1 (by decide) ?_
  refine z_put (ci := 9) (v := .int (nI 0)) Z zin9 tyX9 tyX9_ok nmX9 hP hD hS 0 rfl rfl 0 (by decide) zm677 rfl rfl rfl rfl (Nat.le_of_ble_eq_true rfl) dX9_jokeAt_2 (fun H locs hP hD hS => ?_)
  have hP : va_P D vwCl [(M, .inr (9, [.int (nI 0), .ref mtx, .int (nI len), .int (nI pl), .int rt, .int fr, .int pr, .ref mod_, .int (nI n), .ref mne, .ref mro, .int (nI m), .int rrt, .int rfr, .int rpr, .ref mrod, .int (nI rn9), .ref mrne, .ref mrro, .int (nI rm9), .ref mrp, .ref mpg, .ref mbk, .int (nI ac), .ref mke, .ref mik, .int (nI cr), .ref mrw, .ref mrd, .long sd, .ref mtr, .ref mwo, .ref mnx, .int jr])), (mpg, .inl (cI, 36, .inl g)), (mtr, .inl (cI, 36, .inl t))] H := hP
  have hD : va_D A [(M, .inr (9, [.int (nI 0), .ref mtx, .int (nI len), .int (nI pl), .int rt, .int fr, .int pr, .ref mod_, .int (nI n), .ref mne, .ref mro, .int (nI m), .int rrt, .int rfr, .int rpr, .ref mrod, .int (nI rn9), .ref mrne, .ref mrro, .int (nI rm9), .ref mrp, .ref mpg, .ref mbk, .int (nI ac), .ref mke, .ref mik, .int (nI cr), .ref mrw, .ref mrd, .long sd, .ref mtr, .ref mwo, .ref mnx, .int jr])), (mpg, .inl (cI, 36, .inl g)), (mtr, .inl (cI, 36, .inl t))] := hD
  refine lv_aload_n hx hb dX9_jokeAt_5 rfl (lv_at hl 0 rfl) ?_
  refine lv_iload_n hx hb dX9_jokeAt_6 rfl (lv_at hl 1 rfl) ?_
  refine z_callVi (As := [.int x1]) (rest := []) (ci := 9) (k0 := 0) Z hP hD hS hl.1 (zc_X9_noOne l D cI cZ M (nI 0) mtx len pl rt fr pr mod_ n mne mro m rrt rfr rpr mrod rn9 mrne mrro rm9 mrp mpg mbk ac mke mik cr mrw mrd sd mtr mwo mnx jr x1 (by omega)) zm797 zm798 zm19 zm39 zm799 ⟨rfl, zd_X9_noOne⟩ ⟨Nat.le_of_ble_eq_true rfl, Nat.le_of_ble_eq_true rfl⟩ ⟨Nat.zero_le _, Nat.zero_le _⟩ [0] rfl (by decide) rfl rfl rfl (fun _ => rfl) rfl (Nat.le_of_ble_eq_true rfl) rfl dX9_jokeAt_7 (fun r_1 u H locs h_2 hP hD hS => ?_)
  have hP : va_P D vwCl [(M, .inr (9, [.int (nI 0), .ref mtx, .int (nI len), .int (nI pl), .int rt, .int fr, .int pr, .ref mod_, .int (nI n), .ref mne, .ref mro, .int (nI m), .int rrt, .int rfr, .int rpr, .ref mrod, .int (nI rn9), .ref mrne, .ref mrro, .int (nI rm9), .ref mrp, .ref mpg, .ref mbk, .int (nI ac), .ref mke, .ref mik, .int (nI cr), .ref mrw, .ref mrd, .long sd, .ref mtr, .ref mwo, .ref mnx, .int jr])), (mpg, .inl (cI, 36, .inl g)), (mtr, .inl (cI, 36, .inl t))] H := hP
  have hD : va_D A [(M, .inr (9, [.int (nI 0), .ref mtx, .int (nI len), .int (nI pl), .int rt, .int fr, .int pr, .ref mod_, .int (nI n), .ref mne, .ref mro, .int (nI m), .int rrt, .int rfr, .int rpr, .ref mrod, .int (nI rn9), .ref mrne, .ref mrro, .int (nI rm9), .ref mrp, .ref mpg, .ref mbk, .int (nI ac), .ref mke, .ref mik, .int (nI cr), .ref mrw, .ref mrd, .long sd, .ref mtr, .ref mwo, .ref mnx, .int jr])), (mpg, .inl (cI, 36, .inl g)), (mtr, .inl (cI, 36, .inl t))] := hD
  have h_2 : r_1 = if ¬ zhas n x1 then 1 else 0 := h_2
  subst h_2
  refine lv_if_eq (tgt := 15) hx hb dX9_jokeAt_10 (by decide) (fun c_3 => ?_) (fun c_3 => ?_)
  · have c_3 := zb0 c_3
    have hzz := Classical.not_not.mp c_3
    obtain ⟨p, hp, rfl⟩ := zhas_of (by omega) hzz
    refine lv_iload_n hx hb dX9_jokeAt_15 rfl (lv_at hl 2 rfl) ?_
    refine lv_i2l (v := x2.toInt64) hx hb dX9_jokeAt_16 rfl ?_
    refine lv_lconst (v := 1) hx hb dX9_jokeAt_17 (by decide) ?_
    refine lv_ldc2 (v := 4) hx hb hown (hts _ zm880) dX9_jokeAt_18 ?_
    refine z_callSi (As := [.long x2.toInt64, .long 1, .long 4]) (rest := []) Z hP hD hS hl.1 (zc_X9_in l D cI cZ x2.toInt64 1 4 ) zm750 zm751 zm39 zm752 zd_X9_in ⟨Nat.le_of_ble_eq_true rfl, Nat.le_of_ble_eq_true rfl⟩ ⟨Nat.zero_le _, Nat.zero_le _⟩ [] rfl (by decide) (fun _ => rfl) rfl (Nat.le_of_ble_eq_true rfl) rfl dX9_jokeAt_21 (fun r_4 u H locs h_5 hP hD hS => ?_)
    have hP : va_P D vwCl [(M, .inr (9, [.int (nI 0), .ref mtx, .int (nI len), .int (nI pl), .int rt, .int fr, .int pr, .ref mod_, .int (nI n), .ref mne, .ref mro, .int (nI m), .int rrt, .int rfr, .int rpr, .ref mrod, .int (nI rn9), .ref mrne, .ref mrro, .int (nI rm9), .ref mrp, .ref mpg, .ref mbk, .int (nI ac), .ref mke, .ref mik, .int (nI cr), .ref mrw, .ref mrd, .long sd, .ref mtr, .ref mwo, .ref mnx, .int jr])), (mpg, .inl (cI, 36, .inl g)), (mtr, .inl (cI, 36, .inl t))] H := hP
    have hD : va_D A [(M, .inr (9, [.int (nI 0), .ref mtx, .int (nI len), .int (nI pl), .int rt, .int fr, .int pr, .ref mod_, .int (nI n), .ref mne, .ref mro, .int (nI m), .int rrt, .int rfr, .int rpr, .ref mrod, .int (nI rn9), .ref mrne, .ref mrro, .int (nI rm9), .ref mrp, .ref mpg, .ref mbk, .int (nI ac), .ref mke, .ref mik, .int (nI cr), .ref mrw, .ref mrd, .long sd, .ref mtr, .ref mwo, .ref mnx, .int jr])), (mpg, .inl (cI, 36, .inl g)), (mtr, .inl (cI, 36, .inl t))] := hD
    have h_5 : r_4 = if ¬ x2.toInt64 < 1 ∧ ¬ 4 < x2.toInt64 then 1 else 0 := h_5
    subst h_5
    refine lv_if_ne (tgt := 30) hx hb dX9_jokeAt_24 (by decide) (fun c_6 => ?_) (fun c_6 => ?_)
    · have c_6 := zb1 c_6
      have hrg := (zinr (x := x2) 1 4 rfl rfl).mp c_6
      obtain ⟨d, hd0, hd, rfl⟩ := zRa_of (lo := 1) (hi := 4) (by decide) (by decide) hrg.1 hrg.2
      refine lv_aload_n hx hb dX9_jokeAt_30 rfl (lv_at hl 0 rfl) ?_
      refine lv_iload_n hx hb dX9_jokeAt_31 rfl (lv_at hl 1 rfl) ?_
      refine lv_iload_n hx hb dX9_jokeAt_32 rfl (lv_at hl 2 rfl) ?_
      refine z_callVi (As := [.int (nI p), .int (nI d)]) (rest := []) (ci := 9) (k0 := 0) Z hP hD hS hl.1 (zc_X9_findJoke l D cI cZ M (nI 0) mtx len pl rt fr pr mod_ n mne mro m rrt rfr rpr mrod rn9 mrne mrro rm9 mrp mpg mbk ac mke mik cr mrw mrd sd mtr mwo mnx jr g f t p d (by omega) (by omega) (by omega) (by omega) (by omega) (by omega)) zm881 zm882 zm27 zm39 zm883 ⟨rfl, zd_X9_findJoke⟩ ⟨Nat.le_of_ble_eq_true rfl, Nat.le_of_ble_eq_true rfl⟩ ⟨Nat.zero_le _, Nat.zero_le _⟩ [0, 1, 2] rfl (by decide) rfl rfl rfl (fun _ => rfl) rfl (Nat.le_of_ble_eq_true rfl) rfl dX9_jokeAt_33 (fun r_7 u H locs h_8 hP hD hS => ?_)
      obtain ⟨g2_9, rfl⟩ : ∃ z, z = u := ⟨_, rfl⟩
      have hP : va_P D vwCl [(M, .inr (9, [.int (nI 0), .ref mtx, .int (nI len), .int (nI pl), .int rt, .int fr, .int pr, .ref mod_, .int (nI n), .ref mne, .ref mro, .int (nI m), .int rrt, .int rfr, .int rpr, .ref mrod, .int (nI rn9), .ref mrne, .ref mrro, .int (nI rm9), .ref mrp, .ref mpg, .ref mbk, .int (nI ac), .ref mke, .ref mik, .int (nI cr), .ref mrw, .ref mrd, .long sd, .ref mtr, .ref mwo, .ref mnx, .int ((zsj f rt fr n p d jr (4 ^ d)).2)])), (mpg, .inl (cI, 36, .inl g)), (mtr, .inl (cI, 36, .inl g2_9))] H := hP
      have hD : va_D A [(M, .inr (9, [.int (nI 0), .ref mtx, .int (nI len), .int (nI pl), .int rt, .int fr, .int pr, .ref mod_, .int (nI n), .ref mne, .ref mro, .int (nI m), .int rrt, .int rfr, .int rpr, .ref mrod, .int (nI rn9), .ref mrne, .ref mrro, .int (nI rm9), .ref mrp, .ref mpg, .ref mbk, .int (nI ac), .ref mke, .ref mik, .int (nI cr), .ref mrw, .ref mrd, .long sd, .ref mtr, .ref mwo, .ref mnx, .int ((zsj f rt fr n p d jr (4 ^ d)).2)])), (mpg, .inl (cI, 36, .inl g)), (mtr, .inl (cI, 36, .inl g2_9))] := hD
      have h_8 : r_7 = (zsj f rt fr n p d jr (4 ^ d)).1 := h_8
      subst h_8
      refine lv_bipush (v := -9) hx hb dX9_jokeAt_36 (by decide) ?_
      refine lv_icmp_eq (tgt := 72) hx hb dX9_jokeAt_38 (by decide) (fun c_10 => ?_) (fun c_10 => ?_)
      · have c_10 : ((zsj f rt fr n p d jr (4 ^ d)).1) = (-9) := c_10
        have hj9 := c_10
        refine lv_bipush (v := -9) hx hb dX9_jokeAt_72 (by decide) ?_
        exact z_iret Z (g2_9, (zsj f rt fr n p d jr (4 ^ d)).2) (by first | rw [zPa_n (by assumption)] | (rw [zPa_y hp hn]; first | rw [zRa_n hrgn] | (rw [zRa_y hd0 hd (by decide)]; first | (rw [zJA_n hj9]; done) | (rw [zJA_h hzi]; done) | (rw [zJA_y hj9 hq2 (by omega) hi hd]; done))) | rfl) hP hS dX9_jokeAt_74
      · have c_10 : ¬ (((zsj f rt fr n p d jr (4 ^ d)).1) = (-9)) := c_10
        have hj9 := c_10
        obtain ⟨q, hq, hq2⟩ := (zsj_row (4 ^ d)).resolve_left hj9
        have h4d := zp4 hd
        have e_11 : (zsj f rt fr n p d jr (4 ^ d)).2 = nI q := by exact hq2
        have hP : va_P D vwCl [(M, .inr (9, [.int (nI 0), .ref mtx, .int (nI len), .int (nI pl), .int rt, .int fr, .int pr, .ref mod_, .int (nI n), .ref mne, .ref mro, .int (nI m), .int rrt, .int rfr, .int rpr, .ref mrod, .int (nI rn9), .ref mrne, .ref mrro, .int (nI rm9), .ref mrp, .ref mpg, .ref mbk, .int (nI ac), .ref mke, .ref mik, .int (nI cr), .ref mrw, .ref mrd, .long sd, .ref mtr, .ref mwo, .ref mnx, .int (nI q)])), (mpg, .inl (cI, 36, .inl g)), (mtr, .inl (cI, 36, .inl g2_9))] H := Eq.subst (motive := fun zz_ => va_P D vwCl [(M, .inr (9, [.int (nI 0), .ref mtx, .int (nI len), .int (nI pl), .int rt, .int fr, .int pr, .ref mod_, .int (nI n), .ref mne, .ref mro, .int (nI m), .int rrt, .int rfr, .int rpr, .ref mrod, .int (nI rn9), .ref mrne, .ref mrro, .int (nI rm9), .ref mrp, .ref mpg, .ref mbk, .int (nI ac), .ref mke, .ref mik, .int (nI cr), .ref mrw, .ref mrd, .long sd, .ref mtr, .ref mwo, .ref mnx, .int zz_])), (mpg, .inl (cI, 36, .inl g)), (mtr, .inl (cI, 36, .inl g2_9))] H) e_11 hP
        have hD : va_D A [(M, .inr (9, [.int (nI 0), .ref mtx, .int (nI len), .int (nI pl), .int rt, .int fr, .int pr, .ref mod_, .int (nI n), .ref mne, .ref mro, .int (nI m), .int rrt, .int rfr, .int rpr, .ref mrod, .int (nI rn9), .ref mrne, .ref mrro, .int (nI rm9), .ref mrp, .ref mpg, .ref mbk, .int (nI ac), .ref mke, .ref mik, .int (nI cr), .ref mrw, .ref mrd, .long sd, .ref mtr, .ref mwo, .ref mnx, .int (nI q)])), (mpg, .inl (cI, 36, .inl g)), (mtr, .inl (cI, 36, .inl g2_9))] := zD_of hD rfl
        refine lv_iload_n hx hb dX9_jokeAt_41 rfl (lv_at hl 3 rfl) ?_
        refine lv_i2l (v := x3.toInt64) hx hb dX9_jokeAt_42 rfl ?_
        refine lv_lconst (v := 0) hx hb dX9_jokeAt_43 (by decide) ?_
        refine lv_iload_n hx hb dX9_jokeAt_44 rfl (lv_at hl 2 rfl) ?_
        refine lv_iconst (v := nI 1) hx hb dX9_jokeAt_45 (by decide) ?_
        refine lv_isub hx hb dX9_jokeAt_46 ?_
        refine lv_i2l (v := ((nI d) - (nI 1)).toInt64) hx hb dX9_jokeAt_47 rfl ?_
        refine z_callSi (As := [.long x3.toInt64, .long 0, .long (((nI d) - (nI 1)).toInt64)]) (rest := []) Z hP hD hS hl.1 (zc_X9_in l D cI cZ x3.toInt64 0 (((nI d) - (nI 1)).toInt64) ) zm750 zm751 zm39 zm752 zd_X9_in ⟨Nat.le_of_ble_eq_true rfl, Nat.le_of_ble_eq_true rfl⟩ ⟨Nat.zero_le _, Nat.zero_le _⟩ [] rfl (by decide) (fun _ => rfl) rfl (Nat.le_of_ble_eq_true rfl) rfl dX9_jokeAt_48 (fun r_12 u H locs h_13 hP hD hS => ?_)
        have hP : va_P D vwCl [(M, .inr (9, [.int (nI 0), .ref mtx, .int (nI len), .int (nI pl), .int rt, .int fr, .int pr, .ref mod_, .int (nI n), .ref mne, .ref mro, .int (nI m), .int rrt, .int rfr, .int rpr, .ref mrod, .int (nI rn9), .ref mrne, .ref mrro, .int (nI rm9), .ref mrp, .ref mpg, .ref mbk, .int (nI ac), .ref mke, .ref mik, .int (nI cr), .ref mrw, .ref mrd, .long sd, .ref mtr, .ref mwo, .ref mnx, .int (nI q)])), (mpg, .inl (cI, 36, .inl g)), (mtr, .inl (cI, 36, .inl g2_9))] H := hP
        have hD : va_D A [(M, .inr (9, [.int (nI 0), .ref mtx, .int (nI len), .int (nI pl), .int rt, .int fr, .int pr, .ref mod_, .int (nI n), .ref mne, .ref mro, .int (nI m), .int rrt, .int rfr, .int rpr, .ref mrod, .int (nI rn9), .ref mrne, .ref mrro, .int (nI rm9), .ref mrp, .ref mpg, .ref mbk, .int (nI ac), .ref mke, .ref mik, .int (nI cr), .ref mrw, .ref mrd, .long sd, .ref mtr, .ref mwo, .ref mnx, .int (nI q)])), (mpg, .inl (cI, 36, .inl g)), (mtr, .inl (cI, 36, .inl g2_9))] := hD
        have h_13 : r_12 = if ¬ x3.toInt64 < 0 ∧ ¬ (((nI d) - (nI 1)).toInt64) < x3.toInt64 then 1 else 0 := h_13
        subst h_13
        refine lv_if_eq (tgt := 72) hx hb dX9_jokeAt_51 (by decide) (fun c_14 => ?_) (fun c_14 => ?_)
        · have c_14 := zb0 c_14
          have hzi := fun z => c_14 ((zinh (n := d) (by omega)).mpr z)
          refine lv_bipush (v := -9) hx hb dX9_jokeAt_72 (by decide) ?_
          exact z_iret Z (g2_9, nI q) (by first | rw [zPa_n (by assumption)] | (rw [zPa_y hp hn]; first | rw [zRa_n hrgn] | (rw [zRa_y hd0 hd (by decide)]; first | (rw [zJA_n hj9]; done) | (rw [zJA_h hzi]; done) | (rw [zJA_y hj9 hq2 (by omega) hi hd]; done))) | rfl) hP hS dX9_jokeAt_74
        · have c_14 := zb1 c_14
          have hzi := (zinh (n := d) (by omega)).mp c_14
          obtain ⟨i, hi, rfl⟩ := zhas_of (by omega) hzi
          refine lv_aload_n hx hb dX9_jokeAt_54 rfl (lv_at hl 0 rfl) ?_
          refine z_get (ci := 9) (v := .int (nI q)) Z zin9 hP 0 rfl rfl 33 (by decide) zm710 rfl rfl dX9_jokeAt_55 ?_
          refine lv_iload_n hx hb dX9_jokeAt_58 rfl (lv_at hl 2 rfl) ?_
          refine lv_iconst (v := nI 1) hx hb dX9_jokeAt_59 (by decide) ?_
          refine lv_isub hx hb dX9_jokeAt_60 ?_
          refine z_top (y := nI (d - 1)) (z_sub' (by first | omega | exact Nat.pow_pos (by decide) | exact Nat.lt_of_le_of_lt (Nat.pow_le_pow_right (show 0 < 4 by decide) (show d - 1 - i ≤ 4 by omega)) (by decide) | exact Nat.lt_of_le_of_lt (Nat.div_le_self _ _) (by omega))) ?_
          refine lv_iload_n hx hb dX9_jokeAt_61 rfl (lv_at hl 3 rfl) ?_
          refine lv_isub hx hb dX9_jokeAt_62 ?_
          refine z_top (y := nI ((d - 1) - i)) (z_sub' (by first | omega | exact Nat.pow_pos (by decide) | exact Nat.lt_of_le_of_lt (Nat.pow_le_pow_right (show 0 < 4 by decide) (show d - 1 - i ≤ 4 by omega)) (by decide) | exact Nat.lt_of_le_of_lt (Nat.div_le_self _ _) (by omega))) ?_
          refine z_callSi (As := [.int (nI ((d - 1) - i))]) (rest := [.int (nI q)]) Z hP hD hS hl.1 (zc_X9_four l D cI cZ ((d - 1) - i) (by omega)) zm864 zm865 zm39 zm866 zd_X9_four ⟨Nat.le_of_ble_eq_true rfl, Nat.le_of_ble_eq_true rfl⟩ ⟨Nat.zero_le _, Nat.zero_le _⟩ [] rfl (by decide) (fun _ => rfl) rfl (Nat.le_of_ble_eq_true rfl) rfl dX9_jokeAt_63 (fun r_15 u H locs h_16 hP hD hS => ?_)
          have hP : va_P D vwCl [(M, .inr (9, [.int (nI 0), .ref mtx, .int (nI len), .int (nI pl), .int rt, .int fr, .int pr, .ref mod_, .int (nI n), .ref mne, .ref mro, .int (nI m), .int rrt, .int rfr, .int rpr, .ref mrod, .int (nI rn9), .ref mrne, .ref mrro, .int (nI rm9), .ref mrp, .ref mpg, .ref mbk, .int (nI ac), .ref mke, .ref mik, .int (nI cr), .ref mrw, .ref mrd, .long sd, .ref mtr, .ref mwo, .ref mnx, .int (nI q)])), (mpg, .inl (cI, 36, .inl g)), (mtr, .inl (cI, 36, .inl g2_9))] H := hP
          have hD : va_D A [(M, .inr (9, [.int (nI 0), .ref mtx, .int (nI len), .int (nI pl), .int rt, .int fr, .int pr, .ref mod_, .int (nI n), .ref mne, .ref mro, .int (nI m), .int rrt, .int rfr, .int rpr, .ref mrod, .int (nI rn9), .ref mrne, .ref mrro, .int (nI rm9), .ref mrp, .ref mpg, .ref mbk, .int (nI ac), .ref mke, .ref mik, .int (nI cr), .ref mrw, .ref mrd, .long sd, .ref mtr, .ref mwo, .ref mnx, .int (nI q)])), (mpg, .inl (cI, 36, .inl g)), (mtr, .inl (cI, 36, .inl g2_9))] := hD
          have h_16 : r_15 = nI (4 ^ ((d - 1) - i)) := h_16
          subst h_16
          refine lv_idiv hx hb dX9_jokeAt_66 (by exact fun z => absurd (zeq (j := 0) (Nat.lt_of_le_of_lt (Nat.pow_le_pow_right (show 0 < 4 by decide) (show d - 1 - i ≤ 4 by omega)) (by decide)) (by decide) z) (Nat.ne_of_gt (Nat.pow_pos (by decide)))) ?_
          refine z_top (y := nI (q / (4 ^ ((d - 1) - i)))) (pk_div (by first | omega | exact Nat.pow_pos (by decide) | exact Nat.lt_of_le_of_lt (Nat.pow_le_pow_right (show 0 < 4 by decide) (show d - 1 - i ≤ 4 by omega)) (by decide) | exact Nat.lt_of_le_of_lt (Nat.div_le_self _ _) (by omega)) (by first | omega | exact Nat.pow_pos (by decide) | exact Nat.lt_of_le_of_lt (Nat.pow_le_pow_right (show 0 < 4 by decide) (show d - 1 - i ≤ 4 by omega)) (by decide) | exact Nat.lt_of_le_of_lt (Nat.div_le_self _ _) (by omega)) (by first | omega | exact Nat.pow_pos (by decide) | exact Nat.lt_of_le_of_lt (Nat.pow_le_pow_right (show 0 < 4 by decide) (show d - 1 - i ≤ 4 by omega)) (by decide) | exact Nat.lt_of_le_of_lt (Nat.div_le_self _ _) (by omega))) ?_
          refine lv_iconst (v := nI 4) hx hb dX9_jokeAt_67 (by decide) ?_
          refine lv_irem hx hb dX9_jokeAt_68 (by decide) ?_
          refine z_top (y := nI ((q / (4 ^ ((d - 1) - i))) % 4)) (pk_rem (by first | omega | exact Nat.pow_pos (by decide) | exact Nat.lt_of_le_of_lt (Nat.pow_le_pow_right (show 0 < 4 by decide) (show d - 1 - i ≤ 4 by omega)) (by decide) | exact Nat.lt_of_le_of_lt (Nat.div_le_self _ _) (by omega)) (by decide) (by decide)) ?_
          refine z_top (y := nI (zki q d i)) (rfl) ?_
          refine lv_goto (tgt := 74) hx hb dX9_jokeAt_69 (by decide) ?_
          exact z_iret Z (g2_9, nI q) (by first | rw [zPa_n (by assumption)] | (rw [zPa_y hp hn]; first | rw [zRa_n hrgn] | (rw [zRa_y hd0 hd (by decide)]; first | (rw [zJA_n hj9]; done) | (rw [zJA_h hzi]; done) | (rw [zJA_y hj9 hq2 (by omega) hi hd]; done))) | rfl) hP hS dX9_jokeAt_74
    · have c_6 := zb0 c_6
      have hrgn := fun q => c_6 ((zinr (x := x2) 1 4 rfl rfl).mpr q)
      refine lv_bipush (v := -2) hx hb dX9_jokeAt_27 (by decide) ?_
      exact z_iret Z (t, jr) (by first | rw [zPa_n (by assumption)] | (rw [zPa_y hp hn]; first | rw [zRa_n hrgn] | (rw [zRa_y hd0 hd (by decide)]; first | (rw [zJA_n hj9]; done) | (rw [zJA_h hzi]; done) | (rw [zJA_y hj9 hq2 (by omega) hi hd]; done))) | rfl) hP hS dX9_jokeAt_29
  · have c_3 := zb1 c_3
    refine lv_iconst (v := -1) hx hb dX9_jokeAt_13 (by decide) ?_
    exact z_iret Z (t, jr) (by first | rw [zPa_n (by assumption)] | (rw [zPa_y hp hn]; first | rw [zRa_n hrgn] | (rw [zRa_y hd0 hd (by decide)]; first | (rw [zJA_n hj9]; done) | (rw [zJA_h hzi]; done) | (rw [zJA_y hj9 hq2 (by omega) hi hd]; done))) | rfl) hP hS dX9_jokeAt_14
