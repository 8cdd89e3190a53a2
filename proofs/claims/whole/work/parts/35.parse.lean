theorem zif9_y {b : Bool} {x : Int32} (h : ¬ (if b = true then x else -9) = -9) : b = true := by
  cases b with
  | true => rfl
  | false => exact absurd rfl h
theorem zif9_n {bf : Nat → Int32} {len i lo hi : Nat} (hl : lo ≤ 9) (hh : hi ≤ 9) (h : (if zoR bf len i lo hi = true then nI (zdg bf i) else -9) = -9) : ¬ zoR bf len i lo hi = true := by
  intro q
  rw [if_pos q] at h
  exact absurd h (znI9 (by have := zoR_d q hh hl; omega))
theorem zsubB : ∀ a, a < 11 → ∀ b, b < 28 → (if 0 ≤ nI a - nI b then nI a - nI b else 0) = nI (a - b) := by decide +kernel
theorem zsub_y {a b : Nat} (ha : a < 11) (hb : b < 28) (h : 0 ≤ nI a - nI b) : nI a - nI b = nI (a - b) := by rw [← zsubB a ha b hb, if_pos h]
theorem zsub_n {a b : Nat} (ha : a < 11) (hb : b < 28) (h : ¬ 0 ≤ nI a - nI b) : nI 0 = nI (a - b) := by rw [← zsubB a ha b hb, if_neg h]; rfl
def zpd (bf : Nat → Int32) (a : Nat) : Nat → Int32 := fun k => nI (zdg bf (a + k))
def zpu (f : Nat → Int32) (b : Nat) (g : Nat → Int32) : Nat → Nat → Int32
  | 0 => f
  | k + 1 => upd (zpu f b g k) (b + k) (g k)
theorem zpu_in {f g : Nat → Int32} {b k : Nat} : ∀ c, k < c → zpu f b g c (b + k) = g k
  | 0, h => absurd h (Nat.not_lt_zero _)
  | c + 1, h => by
    show upd (zpu f b g c) (b + c) (g c) (b + k) = g k
    by_cases q : k = c
    · subst q; rw [pk_us]
    · rw [pk_un (by omega)]; exact zpu_in c (by omega)
theorem zpu_out {f g : Nat → Int32} {b j : Nat} : ∀ c, (j < b ∨ b + c ≤ j) → zpu f b g c j = f j
  | 0, _ => rfl
  | c + 1, h => by
    show upd (zpu f b g c) (b + c) (g c) j = f j
    rw [pk_un (by omega)]; exact zpu_out c (by omega)
theorem zcqT_stop {o : Nat → Bool} {k : Nat} (h : zcq o k = k) (h2 : ¬ o k = true) (hk : k < 4) : zcq o 4 = k ∧ ¬ zcq o 4 = 4 := by
  have hs := zcq_stop (o := o) (j := k) (fun z => h2 z.2) 4 (by omega)
  rw [hs.1, h]; exact ⟨rfl, by omega⟩
theorem zand_ac (x y z : Int32) : (x &&& y) &&& z = (x &&& z) &&& y := by rw [Int32.and_assoc, Int32.and_assoc, Int32.and_comm y z]
theorem zhoB_t1 {n i : Nat} {rd : Nat → Int32} (h : zhoB n rd i = true) : zhoB n rd (i + 1) = true := by rw [zhoB_s, h]; rfl
theorem zhoB_t2 {n i : Nat} {rd : Nat → Int32} (h : ¬ zren n rd i = 0) : zhoB n rd (i + 1) = true := by rw [zhoB_s, decide_eq_true h, Bool.or_true]
theorem zhoB_f {n i : Nat} {rd : Nat → Int32} (h : ¬ zhoB n rd i = true) (h2 : zren n rd i = 0) : ¬ zhoB n rd (i + 1) = true := by rw [zhoB_s, Bool.eq_false_iff.mpr h, decide_eq_false (not_not_intro h2)]; decide
theorem zhoB_eq {n : Nat} {rd r2 : Nat → Int32} : ∀ i, (∀ j, j < i → r2 j = rd j) → zhoB n r2 i = zhoB n rd i
  | 0, _ => rfl
  | i + 1, h => by rw [zhoB_s, zhoB_s, zhoB_eq i (fun j hj => h j (by omega))]; unfold zren; rw [h i (by omega)]
theorem dX9_figure_0 : decode cX9_figure 0 = .ok (.aload_n 0, 1) := by decide +kernel
theorem dX9_figure_1 : decode cX9_figure 1 = .ok (.getfield 80, 3) := by decide +kernel
theorem dX9_figure_4 : decode cX9_figure 4 = .ok (.aload_n 0, 1) := by decide +kernel
theorem dX9_figure_5 : decode cX9_figure 5 = .ok (.getfield 77, 3) := by decide +kernel
theorem dX9_figure_8 : decode cX9_figure 8 = .ok (.if_icmp .eq 26, 3) := by decide +kernel
theorem dX9_figure_11 : decode cX9_figure 11 = .ok (.aload_n 0, 1) := by decide +kernel
theorem dX9_figure_12 : decode cX9_figure 12 = .ok (.getfield 7, 3) := by decide +kernel
theorem dX9_figure_15 : decode cX9_figure 15 = .ok (.aload_n 0, 1) := by decide +kernel
theorem dX9_figure_16 : decode cX9_figure 16 = .ok (.getfield 80, 3) := by decide +kernel
theorem dX9_figure_19 : decode cX9_figure 19 = .ok (.iaload, 1) := by decide +kernel
theorem dX9_figure_20 : decode cX9_figure 20 = .ok (.bipush 48, 2) := by decide +kernel
theorem dX9_figure_22 : decode cX9_figure 22 = .ok (.isub, 1) := by decide +kernel
theorem dX9_figure_23 : decode cX9_figure 23 = .ok (.i2l, 1) := by decide +kernel
theorem dX9_figure_24 : decode cX9_figure 24 = .ok (.iload_n 1, 1) := by decide +kernel
theorem dX9_figure_25 : decode cX9_figure 25 = .ok (.i2l, 1) := by decide +kernel
theorem dX9_figure_26 : decode cX9_figure 26 = .ok (.iload_n 2, 1) := by decide +kernel
theorem dX9_figure_27 : decode cX9_figure 27 = .ok (.i2l, 1) := by decide +kernel
theorem dX9_figure_28 : decode cX9_figure 28 = .ok (.invokestatic 69, 3) := by decide +kernel
theorem dX9_figure_31 : decode cX9_figure 31 = .ok (.ifCond .ne 6, 3) := by decide +kernel
theorem dX9_figure_34 : decode cX9_figure 34 = .ok (.bipush (-9), 2) := by decide +kernel
theorem dX9_figure_36 : decode cX9_figure 36 = .ok (.ireturn, 1) := by decide +kernel
theorem dX9_figure_37 : decode cX9_figure 37 = .ok (.aload_n 0, 1) := by decide +kernel
theorem dX9_figure_38 : decode cX9_figure 38 = .ok (.dup, 1) := by decide +kernel
theorem dX9_figure_39 : decode cX9_figure 39 = .ok (.getfield 80, 3) := by decide +kernel
theorem dX9_figure_42 : decode cX9_figure 42 = .ok (.iconst 1, 1) := by decide +kernel
theorem dX9_figure_43 : decode cX9_figure 43 = .ok (.iadd, 1) := by decide +kernel
theorem dX9_figure_44 : decode cX9_figure 44 = .ok (.putfield 80, 3) := by decide +kernel
theorem dX9_figure_47 : decode cX9_figure 47 = .ok (.aload_n 0, 1) := by decide +kernel
theorem dX9_figure_48 : decode cX9_figure 48 = .ok (.getfield 7, 3) := by decide +kernel
theorem dX9_figure_51 : decode cX9_figure 51 = .ok (.aload_n 0, 1) := by decide +kernel
theorem dX9_figure_52 : decode cX9_figure 52 = .ok (.getfield 80, 3) := by decide +kernel
theorem dX9_figure_55 : decode cX9_figure 55 = .ok (.iconst 1, 1) := by decide +kernel
theorem dX9_figure_56 : decode cX9_figure 56 = .ok (.isub, 1) := by decide +kernel
theorem dX9_figure_57 : decode cX9_figure 57 = .ok (.iaload, 1) := by decide +kernel
theorem dX9_figure_58 : decode cX9_figure 58 = .ok (.bipush 48, 2) := by decide +kernel
theorem dX9_figure_60 : decode cX9_figure 60 = .ok (.isub, 1) := by decide +kernel
theorem dX9_figure_61 : decode cX9_figure 61 = .ok (.ireturn, 1) := by decide +kernel
theorem zd_X9_figure : yX9_figure.cls ≠ "java/lang/invoke/MethodHandle" ∧ yX9_figure.cls ≠ "java/lang/invoke/VarHandle" ∧ (parseMethodDescriptor yX9_figure.desc).map (fun d => d.parameters.length) = some 2 := by decide +kernel
set_option maxHeartbeats 4000000 in
set_option maxRecDepth 100000 in
theorem zc_X9_figure (l : Launch) (D : va_G) (cI cZ : ClassId) (M : Nat) (th : Int32) (mtx : Nat) (len : Nat) (pl : Nat) (rt : Int32) (fr : Int32) (pr : Int32) (mod_ : Nat) (n : Nat) (mne : Nat) (mro : Nat) (m : Nat) (rrt : Int32) (rfr : Int32) (rpr : Int32) (mrod : Nat) (rn9 : Nat) (mrne : Nat) (mrro : Nat) (rm9 : Nat) (mrp : Nat) (mpg : Nat) (mbk : Nat) (ac : Nat) (mke : Nat) (mik : Nat) (cr : Nat) (mrw : Nat) (mrd : Nat) (sd : Int64) (mtr : Nat) (mwo : Nat) (mnx : Nat) (jr : Int32) (bf : Nat → Int32) (lo_ : Nat) (hi_ : Nat) (hlen : len ≤ 64) (hpl : pl ≤ len) (hlo : lo_ ≤ 9) (hhi : hi_ ≤ 9) : zI l yX9_figure cX9_figure 3 .int 1 25 D cI cZ [.ref M, .int (nI lo_), .int (nI hi_)] [(M, .inr (9, [.int th, .ref mtx, .int (nI len), .int (nI pl), .int rt, .int fr, .int pr, .ref mod_, .int (nI n), .ref mne, .ref mro, .int (nI m), .int rrt, .int rfr, .int rpr, .ref mrod, .int (nI rn9), .ref mrne, .ref mrro, .int (nI rm9), .ref mrp, .ref mpg, .ref mbk, .int (nI ac), .ref mke, .ref mik, .int (nI cr), .ref mrw, .ref mrd, .long sd, .ref mtr, .ref mwo, .ref mnx, .int jr])), (mtx, .inl (cI, 64, .inl bf))] (fun (r : Int32) (u : Unit) => r = if zoR bf len pl lo_ hi_ = true then nI (zdg bf pl) else -9) (fun (u : Unit) => [(M, .inr (9, [.int th, .ref mtx, .int (nI len), .int (nI (if zoR bf len pl lo_ hi_ = true then pl + 1 else pl)), .int rt, .int fr, .int pr, .ref mod_, .int (nI n), .ref mne, .ref mro, .int (nI m), .int rrt, .int rfr, .int rpr, .ref mrod, .int (nI rn9), .ref mrne, .ref mrro, .int (nI rm9), .ref mrp, .ref mpg, .ref mbk, .int (nI ac), .ref mke, .ref mik, .int (nI cr), .ref mrw, .ref mrd, .long sd, .ref mtr, .ref mwo, .ref mnx, .int jr])), (mtx, .inl (cI, 64, .inl bf))]) := by
  refine zI_of (by decide) (Nat.le_of_ble_eq_true rfl) ?_
  intro pP eE sS mM aA bB mT cC A ls Z hP hD hS hl
  have hx := Z.1
  have hb := Z.2.1
  have hown := Z.2.2.2.2.2.1
  have hts := Z.2.2.2.2.1
  have Z : zAt pP sS mM aA mT cC D cI cZ A "SurpriseTaxModel" cX9_figure 3 (some .int) := Z
  have hl : lv_has ls 3 [(0, .ref M), (1, .int (nI lo_)), (2, .int (nI hi_))] := hl
  obtain ⟨H, hH⟩ : ∃ H, H = sS.heap := ⟨_, rfl⟩
  have hP : va_P D vwCl [(M, .inr (9, [.int th, .ref mtx, .int (nI len), .int (nI pl), .int rt, .int fr, .int pr, .ref mod_, .int (nI n), .ref mne, .ref mro, .int (nI m), .int rrt, .int rfr, .int rpr, .ref mrod, .int (nI rn9), .ref mrne, .ref mrro, .int (nI rm9), .ref mrp, .ref mpg, .ref mbk, .int (nI ac), .ref mke, .ref mik, .int (nI cr), .ref mrw, .ref mrd, .long sd, .ref mtr, .ref mwo, .ref mnx, .int jr])), (mtx, .inl (cI, 64, .inl bf))] H := by rw [hH]; exact hP
  have hS : va_S A sS.heap H [] := by rw [hH]; exact hS
  rw [← hH]
  clear hH
  obtain ⟨locs, hlo⟩ : ∃ q : List Loc, q = [] := ⟨_, rfl⟩
  rw [← hlo] at hS ⊢
  clear hlo
  refine lv_aload_n hx hb dX9_figure_0 rfl (lv_at hl 0 rfl) ?_
  refine z_get (ci := 9) (v := .int (nI pl)) Z zin9 hP 0 rfl rfl 3 (by decide) zm680 rfl rfl dX9_figure_1 ?_
  refine lv_aload_n hx hb dX9_figure_4 rfl (lv_at hl 0 rfl) ?_
  refine z_get (ci := 9) (v := .int (nI len)) Z zin9 hP 0 rfl rfl 2 (by decide) zm679 rfl rfl dX9_figure_5 ?_
  refine lv_icmp_eq (tgt := 34) hx hb dX9_figure_8 (by decide) (fun c_1 => ?_) (fun c_1 => ?_)
  · have c_1 := zeq (i := pl) (j := len) (by omega) (by omega) c_1
    have hno : ¬ zoR bf len pl lo_ hi_ = true := fun z => absurd (of_decide_eq_true z).1 (by omega)
    refine lv_bipush (v := -9) hx hb dX9_figure_34 (by decide) ?_
    have e_2 : nI pl = nI (if zoR bf len pl lo_ hi_ = true then pl + 1 else pl) := by first | (rw [if_neg hno]; done) | (rw [if_pos hok]; done) | (rw [if_pos hok]; exact hd)
    have hP : va_P D vwCl [(M, .inr (9, [.int th, .ref mtx, .int (nI len), .int (nI (if zoR bf len pl lo_ hi_ = true then pl + 1 else pl)), .int rt, .int fr, .int pr, .ref mod_, .int (nI n), .ref mne, .ref mro, .int (nI m), .int rrt, .int rfr, .int rpr, .ref mrod, .int (nI rn9), .ref mrne, .ref mrro, .int (nI rm9), .ref mrp, .ref mpg, .ref mbk, .int (nI ac), .ref mke, .ref mik, .int (nI cr), .ref mrw, .ref mrd, .long sd, .ref mtr, .ref mwo, .ref mnx, .int jr])), (mtx, .inl (cI, 64, .inl bf))] H := Eq.subst (motive := fun zz_ => va_P D vwCl [(M, .inr (9, [.int th, .ref mtx, .int (nI len), .int zz_, .int rt, .int fr, .int pr, .ref mod_, .int (nI n), .ref mne, .ref mro, .int (nI m), .int rrt, .int rfr, .int rpr, .ref mrod, .int (nI rn9), .ref mrne, .ref mrro, .int (nI rm9), .ref mrp, .ref mpg, .ref mbk, .int (nI ac), .ref mke, .ref mik, .int (nI cr), .ref mrw, .ref mrd, .long sd, .ref mtr, .ref mwo, .ref mnx, .int jr])), (mtx, .inl (cI, 64, .inl bf))] H) e_2 hP
    have hD : va_D A [(M, .inr (9, [.int th, .ref mtx, .int (nI len), .int (nI (if zoR bf len pl lo_ hi_ = true then pl + 1 else pl)), .int rt, .int fr, .int pr, .ref mod_, .int (nI n), .ref mne, .ref mro, .int (nI m), .int rrt, .int rfr, .int rpr, .ref mrod, .int (nI rn9), .ref mrne, .ref mrro, .int (nI rm9), .ref mrp, .ref mpg, .ref mbk, .int (nI ac), .ref mke, .ref mik, .int (nI cr), .ref mrw, .ref mrd, .long sd, .ref mtr, .ref mwo, .ref mnx, .int jr])), (mtx, .inl (cI, 64, .inl bf))] := zD_of hD rfl
    exact z_iret Z () (by first | (rw [if_neg hno]; done) | (rw [if_pos hok]; done) | (rw [if_pos hok]; exact hd)) hP hS dX9_figure_36
  · have c_1 := zne (i := pl) (j := len) c_1
    have hlt : pl < len := by omega
    refine lv_aload_n hx hb dX9_figure_11 rfl (lv_at hl 0 rfl) ?_
    refine z_get (ci := 9) (v := .ref mtx) Z zin9 hP 0 rfl rfl 1 (by decide) zm678 rfl rfl dX9_figure_12 ?_
    refine lv_aload_n hx hb dX9_figure_15 rfl (lv_at hl 0 rfl) ?_
    refine z_get (ci := 9) (v := .int (nI pl)) Z zin9 hP 0 rfl rfl 3 (by decide) zm680 rfl rfl dX9_figure_16 ?_
    refine z_iald (n := 64) (f := bf) (j := pl) Z hP 1 rfl (by omega) (by decide) dX9_figure_19 ?_
    refine lv_bipush (v := nI 48) hx hb dX9_figure_20 (by decide) ?_
    refine lv_isub hx hb dX9_figure_22 ?_
    refine z_top (y := (bf pl) - 48) rfl ?_
    refine lv_i2l (v := ((bf pl) - 48).toInt64) hx hb dX9_figure_23 rfl ?_
    refine lv_iload_n hx hb dX9_figure_24 rfl (lv_at hl 1 rfl) ?_
    refine lv_i2l (v := (nI lo_).toInt64) hx hb dX9_figure_25 rfl ?_
    refine lv_iload_n hx hb dX9_figure_26 rfl (lv_at hl 2 rfl) ?_
    refine lv_i2l (v := (nI hi_).toInt64) hx hb dX9_figure_27 rfl ?_
    refine z_callSi (As := [.long (((bf pl) - 48).toInt64), .long ((nI lo_).toInt64), .long ((nI hi_).toInt64)]) (rest := []) Z hP hD hS hl.1 (zc_X9_in l D cI cZ (((bf pl) - 48).toInt64) ((nI lo_).toInt64) ((nI hi_).toInt64) ) zm750 zm751 zm39 zm752 zd_X9_in ⟨Nat.le_of_ble_eq_true rfl, Nat.le_of_ble_eq_true rfl⟩ ⟨Nat.zero_le _, Nat.zero_le _⟩ [] rfl (by decide) (fun _ => rfl) rfl (Nat.le_of_ble_eq_true rfl) rfl dX9_figure_28 (fun r_3 u H locs h_4 hP hD hS => ?_)
    have hP : va_P D vwCl [(M, .inr (9, [.int th, .ref mtx, .int (nI len), .int (nI pl), .int rt, .int fr, .int pr, .ref mod_, .int (nI n), .ref mne, .ref mro, .int (nI m), .int rrt, .int rfr, .int rpr, .ref mrod, .int (nI rn9), .ref mrne, .ref mrro, .int (nI rm9), .ref mrp, .ref mpg, .ref mbk, .int (nI ac), .ref mke, .ref mik, .int (nI cr), .ref mrw, .ref mrd, .long sd, .ref mtr, .ref mwo, .ref mnx, .int jr])), (mtx, .inl (cI, 64, .inl bf))] H := hP
    have hD : va_D A [(M, .inr (9, [.int th, .ref mtx, .int (nI len), .int (nI pl), .int rt, .int fr, .int pr, .ref mod_, .int (nI n), .ref mne, .ref mro, .int (nI m), .int rrt, .int rfr, .int rpr, .ref mrod, .int (nI rn9), .ref mrne, .ref mrro, .int (nI rm9), .ref mrp, .ref mpg, .ref mbk, .int (nI ac), .ref mke, .ref mik, .int (nI cr), .ref mrw, .ref mrd, .long sd, .ref mtr, .ref mwo, .ref mnx, .int jr])), (mtx, .inl (cI, 64, .inl bf))] := hD
    have h_4 : r_3 = if ¬ (((bf pl) - 48).toInt64) < ((nI lo_).toInt64) ∧ ¬ ((nI hi_).toInt64) < (((bf pl) - 48).toInt64) then 1 else 0 := h_4
    subst h_4
    refine lv_if_ne (tgt := 37) hx hb dX9_figure_31 (by decide) (fun c_5 => ?_) (fun c_5 => ?_)
    · have c_5 := zb1 c_5
      have hz := (zinr (x := bf pl - 48) lo_ hi_ rfl rfl).mp c_5
      have hok : zoR bf len pl lo_ hi_ = true := decide_eq_true ⟨hlt, hz.1, hz.2⟩
      have hd := (zoR_d hok hhi hlo).2.1
      refine lv_aload_n hx hb dX9_figure_37 rfl (lv_at hl 0 rfl) ?_
      refine lv_dup hx hb dX9_figure_38 rfl ?_
      refine z_get (ci := 9) (v := .int (nI pl)) Z zin9 hP 0 rfl rfl 3 (by decide) zm680 rfl rfl dX9_figure_39 ?_
      refine lv_iconst (v := nI 1) hx hb dX9_figure_42 (by decide) ?_
      refine lv_iadd hx hb dX9_figure_43 ?_
      refine z_top (y := nI (pl + 1)) (z_add _ _) ?_
      refine z_put (ci := 9) (v := .int (nI (pl + 1))) Z zin9 tyX9 tyX9_ok nmX9 hP hD hS 0 rfl rfl 3 (by decide) zm680 rfl rfl rfl rfl (Nat.le_of_ble_eq_true rfl) dX9_figure_44 (fun H locs hP hD hS => ?_)
      have hP : va_P D vwCl [(M, .inr (9, [.int th, .ref mtx, .int (nI len), .int (nI (pl + 1)), .int rt, .int fr, .int pr, .ref mod_, .int (nI n), .ref mne, .ref mro, .int (nI m), .int rrt, .int rfr, .int rpr, .ref mrod, .int (nI rn9), .ref mrne, .ref mrro, .int (nI rm9), .ref mrp, .ref mpg, .ref mbk, .int (nI ac), .ref mke, .ref mik, .int (nI cr), .ref mrw, .ref mrd, .long sd, .ref mtr, .ref mwo, .ref mnx, .int jr])), (mtx, .inl (cI, 64, .inl bf))] H := hP
      have hD : va_D A [(M, .inr (9, [.int th, .ref mtx, .int (nI len), .int (nI (pl + 1)), .int rt, .int fr, .int pr, .ref mod_, .int (nI n), .ref mne, .ref mro, .int (nI m), .int rrt, .int rfr, .int rpr, .ref mrod, .int (nI rn9), .ref mrne, .ref mrro, .int (nI rm9), .ref mrp, .ref mpg, .ref mbk, .int (nI ac), .ref mke, .ref mik, .int (nI cr), .ref mrw, .ref mrd, .long sd, .ref mtr, .ref mwo, .ref mnx, .int jr])), (mtx, .inl (cI, 64, .inl bf))] := hD
      refine lv_aload_n hx hb dX9_figure_47 rfl (lv_at hl 0 rfl) ?_
      refine z_get (ci := 9) (v := .ref mtx) Z zin9 hP 0 rfl rfl 1 (by decide) zm678 rfl rfl dX9_figure_48 ?_
      refine lv_aload_n hx hb dX9_figure_51 rfl (lv_at hl 0 rfl) ?_
      refine z_get (ci := 9) (v := .int (nI (pl + 1))) Z zin9 hP 0 rfl rfl 3 (by decide) zm680 rfl rfl dX9_figure_52 ?_
      refine lv_iconst (v := nI 1) hx hb dX9_figure_55 (by decide) ?_
      refine lv_isub hx hb dX9_figure_56 ?_
      refine z_top (y := nI ((pl + 1) - 1)) (z_sub' (by omega)) ?_
      refine z_top (y := nI pl) (rfl) ?_
      refine z_iald (n := 64) (f := bf) (j := pl) Z hP 1 rfl (by omega) (by decide) dX9_figure_57 ?_
      refine lv_bipush (v := nI 48) hx hb dX9_figure_58 (by decide) ?_
      refine lv_isub hx hb dX9_figure_60 ?_
      refine z_top (y := (bf pl) - 48) rfl ?_
      have e_6 : nI (pl + 1) = nI (if zoR bf len pl lo_ hi_ = true then pl + 1 else pl) := by first | (rw [if_neg hno]; done) | (rw [if_pos hok]; done) | (rw [if_pos hok]; exact hd)
      have hP : va_P D vwCl [(M, .inr (9, [.int th, .ref mtx, .int (nI len), .int (nI (if zoR bf len pl lo_ hi_ = true then pl + 1 else pl)), .int rt, .int fr, .int pr, .ref mod_, .int (nI n), .ref mne, .ref mro, .int (nI m), .int rrt, .int rfr, .int rpr, .ref mrod, .int (nI rn9), .ref mrne, .ref mrro, .int (nI rm9), .ref mrp, .ref mpg, .ref mbk, .int (nI ac), .ref mke, .ref mik, .int (nI cr), .ref mrw, .ref mrd, .long sd, .ref mtr, .ref mwo, .ref mnx, .int jr])), (mtx, .inl (cI, 64, .inl bf))] H := Eq.subst (motive := fun zz_ => va_P D vwCl [(M, .inr (9, [.int th, .ref mtx, .int (nI len), .int zz_, .int rt, .int fr, .int pr, .ref mod_, .int (nI n), .ref mne, .ref mro, .int (nI m), .int rrt, .int rfr, .int rpr, .ref mrod, .int (nI rn9), .ref mrne, .ref mrro, .int (nI rm9), .ref mrp, .ref mpg, .ref mbk, .int (nI ac), .ref mke, .ref mik, .int (nI cr), .ref mrw, .ref mrd, .long sd, .ref mtr, .ref mwo, .ref mnx, .int jr])), (mtx, .inl (cI, 64, .inl bf))] H) e_6 hP
      have hD : va_D A [(M, .inr (9, [.int th, .ref mtx, .int (nI len), .int (nI (if zoR bf len pl lo_ hi_ = true then pl + 1 else pl)), .int rt, .int fr, .int pr, .ref mod_, .int (nI n), .ref mne, .ref mro, .int (nI m), .int rrt, .int rfr, .int rpr, .ref mrod, .int (nI rn9), .ref mrne, .ref mrro, .int (nI rm9), .ref mrp, .ref mpg, .ref mbk, .int (nI ac), .ref mke, .ref mik, .int (nI cr), .ref mrw, .ref mrd, .long sd, .ref mtr, .ref mwo, .ref mnx, .int jr])), (mtx, .inl (cI, 64, .inl bf))] := zD_of hD rfl
      exact z_iret Z () (by first | (rw [if_neg hno]; done) | (rw [if_pos hok]; done) | (rw [if_pos hok]; exact hd)) hP hS dX9_figure_61
    · have c_5 := zb0 c_5
      have hno : ¬ zoR bf len pl lo_ hi_ = true := fun z => c_5 ((zinr (x := bf pl - 48) lo_ hi_ rfl rfl).mpr ⟨(of_decide_eq_true z).2.1, (of_decide_eq_true z).2.2⟩)
      refine lv_bipush (v := -9) hx hb dX9_figure_34 (by decide) ?_
      have e_7 : nI pl = nI (if zoR bf len pl lo_ hi_ = true then pl + 1 else pl) := by first | (rw [if_neg hno]; done) | (rw [if_pos hok]; done) | (rw [if_pos hok]; exact hd)
      have hP : va_P D vwCl [(M, .inr (9, [.int th, .ref mtx, .int (nI len), .int (nI (if zoR bf len pl lo_ hi_ = true then pl + 1 else pl)), .int rt, .int fr, .int pr, .ref mod_, .int (nI n), .ref mne, .ref mro, .int (nI m), .int rrt, .int rfr, .int rpr, .ref mrod, .int (nI rn9), .ref mrne, .ref mrro, .int (nI rm9), .ref mrp, .ref mpg, .ref mbk, .int (nI ac), .ref mke, .ref mik, .int (nI cr), .ref mrw, .ref mrd, .long sd, .ref mtr, .ref mwo, .ref mnx, .int jr])), (mtx, .inl (cI, 64, .inl bf))] H := Eq.subst (motive := fun zz_ => va_P D vwCl [(M, .inr (9, [.int th, .ref mtx, .int (nI len), .int zz_, .int rt, .int fr, .int pr, .ref mod_, .int (nI n), .ref mne, .ref mro, .int (nI m), .int rrt, .int rfr, .int rpr, .ref mrod, .int (nI rn9), .ref mrne, .ref mrro, .int (nI rm9), .ref mrp, .ref mpg, .ref mbk, .int (nI ac), .ref mke, .ref mik, .int (nI cr), .ref mrw, .ref mrd, .long sd, .ref mtr, .ref mwo, .ref mnx, .int jr])), (mtx, .inl (cI, 64, .inl bf))] H) e_7 hP
      have hD : va_D A [(M, .inr (9, [.int th, .ref mtx, .int (nI len), .int (nI (if zoR bf len pl lo_ hi_ = true then pl + 1 else pl)), .int rt, .int fr, .int pr, .ref mod_, .int (nI n), .ref mne, .ref mro, .int (nI m), .int rrt, .int rfr, .int rpr, .ref mrod, .int (nI rn9), .ref mrne, .ref mrro, .int (nI rm9), .ref mrp, .ref mpg, .ref mbk, .int (nI ac), .ref mke, .ref mik, .int (nI cr), .ref mrw, .ref mrd, .long sd, .ref mtr, .ref mwo, .ref mnx, .int jr])), (mtx, .inl (cI, 64, .inl bf))] := zD_of hD rfl
      exact z_iret Z () (by first | (rw [if_neg hno]; done) | (rw [if_pos hok]; done) | (rw [if_pos hok]; exact hd)) hP hS dX9_figure_36

theorem dX9_readTen_0 : decode cX9_readTen 0 = .ok (.bipush 10, 2) := by decide +kernel
theorem dX9_readTen_2 : decode cX9_readTen 2 = .ok (.istore_n 3, 1) := by decide +kernel
theorem dX9_readTen_3 : decode cX9_readTen 3 = .ok (.iconst 0, 1) := by decide +kernel
theorem dX9_readTen_4 : decode cX9_readTen 4 = .ok (.istore 4, 2) := by decide +kernel
theorem dX9_readTen_6 : decode cX9_readTen 6 = .ok (.iload 4, 2) := by decide +kernel
theorem dX9_readTen_8 : decode cX9_readTen 8 = .ok (.iconst 4, 1) := by decide +kernel
theorem dX9_readTen_9 : decode cX9_readTen 9 = .ok (.if_icmp .ge 77, 3) := by decide +kernel
theorem dX9_readTen_12 : decode cX9_readTen 12 = .ok (.bipush 9, 2) := by decide +kernel
theorem dX9_readTen_14 : decode cX9_readTen 14 = .ok (.iconst 3, 1) := by decide +kernel
theorem dX9_readTen_15 : decode cX9_readTen 15 = .ok (.iload 4, 2) := by decide +kernel
theorem dX9_readTen_17 : decode cX9_readTen 17 = .ok (.isub, 1) := by decide +kernel
theorem dX9_readTen_18 : decode cX9_readTen 18 = .ok (.imul, 1) := by decide +kernel
theorem dX9_readTen_19 : decode cX9_readTen 19 = .ok (.istore 5, 2) := by decide +kernel
theorem dX9_readTen_21 : decode cX9_readTen 21 = .ok (.iload_n 3, 1) := by decide +kernel
theorem dX9_readTen_22 : decode cX9_readTen 22 = .ok (.iload 5, 2) := by decide +kernel
theorem dX9_readTen_24 : decode cX9_readTen 24 = .ok (.isub, 1) := by decide +kernel
theorem dX9_readTen_25 : decode cX9_readTen 25 = .ok (.ifCond .ge 7, 3) := by decide +kernel
theorem dX9_readTen_28 : decode cX9_readTen 28 = .ok (.iconst 0, 1) := by decide +kernel
theorem dX9_readTen_29 : decode cX9_readTen 29 = .ok (.goto 7, 3) := by decide +kernel
theorem dX9_readTen_32 : decode cX9_readTen 32 = .ok (.iload_n 3, 1) := by decide +kernel
theorem dX9_readTen_33 : decode cX9_readTen 33 = .ok (.iload 5, 2) := by decide +kernel
theorem dX9_readTen_35 : decode cX9_readTen 35 = .ok (.isub, 1) := by decide +kernel
theorem dX9_readTen_36 : decode cX9_readTen 36 = .ok (.istore 6, 2) := by decide +kernel
theorem dX9_readTen_38 : decode cX9_readTen 38 = .ok (.aload_n 0, 1) := by decide +kernel
theorem dX9_readTen_39 : decode cX9_readTen 39 = .ok (.iload 6, 2) := by decide +kernel
theorem dX9_readTen_41 : decode cX9_readTen 41 = .ok (.iload_n 3, 1) := by decide +kernel
theorem dX9_readTen_42 : decode cX9_readTen 42 = .ok (.bipush 9, 2) := by decide +kernel
theorem dX9_readTen_44 : decode cX9_readTen 44 = .ok (.if_icmp .ge 7, 3) := by decide +kernel
theorem dX9_readTen_47 : decode cX9_readTen 47 = .ok (.iload_n 3, 1) := by decide +kernel
theorem dX9_readTen_48 : decode cX9_readTen 48 = .ok (.goto 5, 3) := by decide +kernel
theorem dX9_readTen_51 : decode cX9_readTen 51 = .ok (.bipush 9, 2) := by decide +kernel
theorem dX9_readTen_53 : decode cX9_readTen 53 = .ok (.invokevirtual 83, 3) := by decide +kernel
theorem dX9_readTen_56 : decode cX9_readTen 56 = .ok (.istore 7, 2) := by decide +kernel
theorem dX9_readTen_58 : decode cX9_readTen 58 = .ok (.iload 7, 2) := by decide +kernel
theorem dX9_readTen_60 : decode cX9_readTen 60 = .ok (.bipush (-9), 2) := by decide +kernel
theorem dX9_readTen_62 : decode cX9_readTen 62 = .ok (.if_icmp .ne 5, 3) := by decide +kernel
theorem dX9_readTen_65 : decode cX9_readTen 65 = .ok (.iconst 0, 1) := by decide +kernel
theorem dX9_readTen_66 : decode cX9_readTen 66 = .ok (.ireturn, 1) := by decide +kernel
theorem dX9_readTen_67 : decode cX9_readTen 67 = .ok (.aload_n 1, 1) := by decide +kernel
theorem dX9_readTen_68 : decode cX9_readTen 68 = .ok (.iload_n 2, 1) := by decide +kernel
theorem dX9_readTen_69 : decode cX9_readTen 69 = .ok (.iload 4, 2) := by decide +kernel
theorem dX9_readTen_71 : decode cX9_readTen 71 = .ok (.iadd, 1) := by decide +kernel
theorem dX9_readTen_72 : decode cX9_readTen 72 = .ok (.iload 7, 2) := by decide +kernel
theorem dX9_readTen_74 : decode cX9_readTen 74 = .ok (.iastore, 1) := by decide +kernel
theorem dX9_readTen_75 : decode cX9_readTen 75 = .ok (.iload_n 3, 1) := by decide +kernel
theorem dX9_readTen_76 : decode cX9_readTen 76 = .ok (.iload 7, 2) := by decide +kernel
theorem dX9_readTen_78 : decode cX9_readTen 78 = .ok (.isub, 1) := by decide +kernel
theorem dX9_readTen_79 : decode cX9_readTen 79 = .ok (.istore_n 3, 1) := by decide +kernel
theorem dX9_readTen_80 : decode cX9_readTen 80 = .ok (.iinc 4 1, 3) := by decide +kernel
theorem dX9_readTen_83 : decode cX9_readTen 83 = .ok (.goto (-77), 3) := by decide +kernel
theorem dX9_readTen_86 : decode cX9_readTen 86 = .ok (.iconst 1, 1) := by decide +kernel
theorem dX9_readTen_87 : decode cX9_readTen 87 = .ok (.ireturn, 1) := by decide +kernel
theorem zd_X9_readTen : yX9_readTen.cls ≠ "java/lang/invoke/MethodHandle" ∧ yX9_readTen.cls ≠ "java/lang/invoke/VarHandle" ∧ (parseMethodDescriptor yX9_readTen.desc).map (fun d => d.parameters.length) = some 2 := by decide +kernel
set_option maxHeartbeats 4000000 in
set_option maxRecDepth 100000 in
theorem zc_X9_readTenA (l : Launch) (D : va_G) (cI cZ : ClassId) (M : Nat) (th : Int32) (mtx : Nat) (len : Nat) (pl : Nat) (rt : Int32) (fr : Int32) (pr : Int32) (mod_ : Nat) (n : Nat) (mne : Nat) (mro : Nat) (m : Nat) (rrt : Int32) (rfr : Int32) (rpr : Int32) (mrod : Nat) (rn9 : Nat) (mrne : Nat) (mrro : Nat) (rm9 : Nat) (mrp : Nat) (mpg : Nat) (mbk : Nat) (ac : Nat) (mke : Nat) (mik : Nat) (cr : Nat) (mrw : Nat) (mrd : Nat) (sd : Int64) (mtr : Nat) (mwo : Nat) (mnx : Nat) (jr : Int32) (bf : Nat → Int32) (q1 : Nat) (te : Nat → Int32) (b7 : Nat) (hlen : len ≤ 64) (hpl : pl ≤ len) (hb7 : b7 + 4 ≤ 4) : zI l yX9_readTen cX9_readTen 8 .boolean 2 47 D cI cZ [.ref M, .ref q1, .int (nI b7)] [(M, .inr (9, [.int th, .ref mtx, .int (nI len), .int (nI pl), .int rt, .int fr, .int pr, .ref mod_, .int (nI n), .ref mne, .ref mro, .int (nI m), .int rrt, .int rfr, .int rpr, .ref mrod, .int (nI rn9), .ref mrne, .ref mrro, .int (nI rm9), .ref mrp, .ref mpg, .ref mbk, .int (nI ac), .ref mke, .ref mik, .int (nI cr), .ref mrw, .ref mrd, .long sd, .ref mtr, .ref mwo, .ref mnx, .int jr])), (mtx, .inl (cI, 64, .inl bf)), (q1, .inl (cI, 4, .inl te))] (fun (r : Int32) (u : (Nat → Int32)) => (r = if zcq (zoT bf len pl) 4 = 4 then 1 else 0) ∧ (zcq (zoT bf len pl) 4 = 4 → u = zpu te b7 (zpd bf pl) 4)) (fun (u : (Nat → Int32)) => [(M, .inr (9, [.int th, .ref mtx, .int (nI len), .int (nI (pl + zcq (zoT bf len pl) 4)), .int rt, .int fr, .int pr, .ref mod_, .int (nI n), .ref mne, .ref mro, .int (nI m), .int rrt, .int rfr, .int rpr, .ref mrod, .int (nI rn9), .ref mrne, .ref mrro, .int (nI rm9), .ref mrp, .ref mpg, .ref mbk, .int (nI ac), .ref mke, .ref mik, .int (nI cr), .ref mrw, .ref mrd, .long sd, .ref mtr, .ref mwo, .ref mnx, .int jr])), (mtx, .inl (cI, 64, .inl bf)), (q1, .inl (cI, 4, .inl u))]) := by
  refine zI_of (by decide) (Nat.le_of_ble_eq_true rfl) ?_
  intro pP eE sS mM aA bB mT cC A ls Z hP hD hS hl
  have hx := Z.1
  have hb := Z.2.1
  have hown := Z.2.2.2.2.2.1
  have hts := Z.2.2.2.2.1
  have Z : zAt pP sS mM aA mT cC D cI cZ A "SurpriseTaxModel" cX9_readTen 8 (some .boolean) := Z
  have hl : lv_has ls 8 [(0, .ref M), (1, .ref q1), (2, .int (nI b7))] := hl
  obtain ⟨H, hH⟩ : ∃ H, H = sS.heap := ⟨_, rfl⟩
  have hP : va_P D vwCl [(M, .inr (9, [.int th, .ref mtx, .int (nI len), .int (nI pl), .int rt, .int fr, .int pr, .ref mod_, .int (nI n), .ref mne, .ref mro, .int (nI m), .int rrt, .int rfr, .int rpr, .ref mrod, .int (nI rn9), .ref mrne, .ref mrro, .int (nI rm9), .ref mrp, .ref mpg, .ref mbk, .int (nI ac), .ref mke, .ref mik, .int (nI cr), .ref mrw, .ref mrd, .long sd, .ref mtr, .ref mwo, .ref mnx, .int jr])), (mtx, .inl (cI, 64, .inl bf)), (q1, .inl (cI, 4, .inl te))] H := by rw [hH]; exact hP
  have hS : va_S A sS.heap H [] := by rw [hH]; exact hS
  rw [← hH]
  clear hH
  obtain ⟨locs, hlo⟩ : ∃ q : List Loc, q = [] := ⟨_, rfl⟩
  rw [← hlo] at hS ⊢
  clear hlo
  refine lv_bipush (v := nI 10) hx hb dX9_readTen_0 (by decide) ?_
  refine lv_istore_n (lv' := [(3, .int (nI 10)), (0, .ref M), (1, .ref q1), (2, .int (nI b7))]) hx hb dX9_readTen_2 rfl hl (by decide) rfl (fun ls hl => ?_)
  refine lv_iconst (v := nI 0) hx hb dX9_readTen_3 (by decide) ?_
  refine lv_istore (lv' := [(4, .int (nI 0)), (3, .int (nI 10)), (0, .ref M), (1, .ref q1), (2, .int (nI b7))]) hx hb dX9_readTen_4 hl (by decide) rfl (fun ls hl => ?_)
  have e_2 : nI pl = nI (pl + 0) := by rfl
  have hP : va_P D vwCl [(M, .inr (9, [.int th, .ref mtx, .int (nI len), .int (nI (pl + 0)), .int rt, .int fr, .int pr, .ref mod_, .int (nI n), .ref mne, .ref mro, .int (nI m), .int rrt, .int rfr, .int rpr, .ref mrod, .int (nI rn9), .ref mrne, .ref mrro, .int (nI rm9), .ref mrp, .ref mpg, .ref mbk, .int (nI ac), .ref mke, .ref mik, .int (nI cr), .ref mrw, .ref mrd, .long sd, .ref mtr, .ref mwo, .ref mnx, .int jr])), (mtx, .inl (cI, 64, .inl bf)), (q1, .inl (cI, 4, .inl te))] H := Eq.subst (motive := fun zz_ => va_P D vwCl [(M, .inr (9, [.int th, .ref mtx, .int (nI len), .int zz_, .int rt, .int fr, .int pr, .ref mod_, .int (nI n), .ref mne, .ref mro, .int (nI m), .int rrt, .int rfr, .int rpr, .ref mrod, .int (nI rn9), .ref mrne, .ref mrro, .int (nI rm9), .ref mrp, .ref mpg, .ref mbk, .int (nI ac), .ref mke, .ref mik, .int (nI cr), .ref mrw, .ref mrd, .long sd, .ref mtr, .ref mwo, .ref mnx, .int jr])), (mtx, .inl (cI, 64, .inl bf)), (q1, .inl (cI, 4, .inl te))] H) e_2 hP
  have e_3 : te = zpu te b7 (zpd bf pl) 0 := by rfl
  have hP : va_P D vwCl [(M, .inr (9, [.int th, .ref mtx, .int (nI len), .int (nI (pl + 0)), .int rt, .int fr, .int pr, .ref mod_, .int (nI n), .ref mne, .ref mro, .int (nI m), .int rrt, .int rfr, .int rpr, .ref mrod, .int (nI rn9), .ref mrne, .ref mrro, .int (nI rm9), .ref mrp, .ref mpg, .ref mbk, .int (nI ac), .ref mke, .ref mik, .int (nI cr), .ref mrw, .ref mrd, .long sd, .ref mtr, .ref mwo, .ref mnx, .int jr])), (mtx, .inl (cI, 64, .inl bf)), (q1, .inl (cI, 4, .inl (zpu te b7 (zpd bf pl) 0)))] H := Eq.subst (motive := fun zz_ => va_P D vwCl [(M, .inr (9, [.int th, .ref mtx, .int (nI len), .int (nI (pl + 0)), .int rt, .int fr, .int pr, .ref mod_, .int (nI n), .ref mne, .ref mro, .int (nI m), .int rrt, .int rfr, .int rpr, .ref mrod, .int (nI rn9), .ref mrne, .ref mrro, .int (nI rm9), .ref mrp, .ref mpg, .ref mbk, .int (nI ac), .ref mke, .ref mik, .int (nI cr), .ref mrw, .ref mrd, .long sd, .ref mtr, .ref mwo, .ref mnx, .int jr])), (mtx, .inl (cI, 64, .inl bf)), (q1, .inl (cI, 4, .inl zz_))] H) e_3 hP
  have hD : va_D A [(M, .inr (9, [.int th, .ref mtx, .int (nI len), .int (nI (pl + 0)), .int rt, .int fr, .int pr, .ref mod_, .int (nI n), .ref mne, .ref mro, .int (nI m), .int rrt, .int rfr, .int rpr, .ref mrod, .int (nI rn9), .ref mrne, .ref mrro, .int (nI rm9), .ref mrp, .ref mpg, .ref mbk, .int (nI ac), .ref mke, .ref mik, .int (nI cr), .ref mrw, .ref mrd, .long sd, .ref mtr, .ref mwo, .ref mnx, .int jr])), (mtx, .inl (cI, 64, .inl bf)), (q1, .inl (cI, 4, .inl (zpu te b7 (zpd bf pl) 0)))] := zD_of hD rfl
  have hl : lv_has ls 8 [(4, .int (nI 0)), (3, .int (nI 10)), (0, .ref M), (1, .ref q1), (2, .int (nI b7))] := lv_sub hl [0, 1, 2, 3, 4] rfl
  have e_4 : nI 10 = nI (zlf bf pl 0) := by rfl
  have hl : lv_has ls 8 [(4, .int (nI 0)), (3, .int (nI (zlf bf pl 0))), (0, .ref M), (1, .ref q1), (2, .int (nI b7))] := Eq.subst (motive := fun zz_ => lv_has ls 8 [(4, .int (nI 0)), (3, .int zz_), (0, .ref M), (1, .ref q1), (2, .int (nI b7))]) e_4 hl
  refine z_loop (fun k H locs ls => va_P D vwCl [(M, .inr (9, [.int th, .ref mtx, .int (nI len), .int (nI (pl + k)), .int rt, .int fr, .int pr, .ref mod_, .int (nI n), .ref mne, .ref mro, .int (nI m), .int rrt, .int rfr, .int rpr, .ref mrod, .int (nI rn9), .ref mrne, .ref mrro, .int (nI rm9), .ref mrp, .ref mpg, .ref mbk, .int (nI ac), .ref mke, .ref mik, .int (nI cr), .ref mrw, .ref mrd, .long sd, .ref mtr, .ref mwo, .ref mnx, .int jr])), (mtx, .inl (cI, 64, .inl bf)), (q1, .inl (cI, 4, .inl (zpu te b7 (zpd bf pl) k)))] H ∧ va_D A [(M, .inr (9, [.int th, .ref mtx, .int (nI len), .int (nI (pl + k)), .int rt, .int fr, .int pr, .ref mod_, .int (nI n), .ref mne, .ref mro, .int (nI m), .int rrt, .int rfr, .int rpr, .ref mrod, .int (nI rn9), .ref mrne, .ref mrro, .int (nI rm9), .ref mrp, .ref mpg, .ref mbk, .int (nI ac), .ref mke, .ref mik, .int (nI cr), .ref mrw, .ref mrd, .long sd, .ref mtr, .ref mwo, .ref mnx, .int jr])), (mtx, .inl (cI, 64, .inl bf)), (q1, .inl (cI, 4, .inl (zpu te b7 (zpd bf pl) k)))] ∧ va_S A sS.heap H locs ∧ lv_has ls 8 [(4, .int (nI k)), (3, .int (nI (zlf bf pl k))), (0, .ref M), (1, .ref q1), (2, .int (nI b7))] ∧ (zcq (zoT bf len pl) k = k) ∧ (pl + k ≤ len)) (4) (lo := 0) (by omega) ⟨hP, hD, hS, hl, (by first | rfl | assumption), (by first | rfl | assumption)⟩ (fun k hi_k ih_1 H locs ls hI => ?_)
  obtain ⟨hP, hD, hS, hl, hv6_0, hv6_1⟩ := hI
  have hv6_0 : zcq (zoT bf len pl) k = k := hv6_0
  have hv6_1 : pl + k ≤ len := hv6_1
  have hP : va_P D vwCl [(M, .inr (9, [.int th, .ref mtx, .int (nI len), .int (nI (pl + k)), .int rt, .int fr, .int pr, .ref mod_, .int (nI n), .ref mne, .ref mro, .int (nI m), .int rrt, .int rfr, .int rpr, .ref mrod, .int (nI rn9), .ref mrne, .ref mrro, .int (nI rm9), .ref mrp, .ref mpg, .ref mbk, .int (nI ac), .ref mke, .ref mik, .int (nI cr), .ref mrw, .ref mrd, .long sd, .ref mtr, .ref mwo, .ref mnx, .int jr])), (mtx, .inl (cI, 64, .inl bf)), (q1, .inl (cI, 4, .inl (zpu te b7 (zpd bf pl) k)))] H := hP
  have hD : va_D A [(M, .inr (9, [.int th, .ref mtx, .int (nI len), .int (nI (pl + k)), .int rt, .int fr, .int pr, .ref mod_, .int (nI n), .ref mne, .ref mro, .int (nI m), .int rrt, .int rfr, .int rpr, .ref mrod, .int (nI rn9), .ref mrne, .ref mrro, .int (nI rm9), .ref mrp, .ref mpg, .ref mbk, .int (nI ac), .ref mke, .ref mik, .int (nI cr), .ref mrw, .ref mrd, .long sd, .ref mtr, .ref mwo, .ref mnx, .int jr])), (mtx, .inl (cI, 64, .inl bf)), (q1, .inl (cI, 4, .inl (zpu te b7 (zpd bf pl) k)))] := hD
  have hl : lv_has ls 8 [(4, .int (nI k)), (3, .int (nI (zlf bf pl k))), (0, .ref M), (1, .ref q1), (2, .int (nI b7))] := hl
  have hbb := zlf_b (bf := bf) (len := len) (s := pl) k (by omega) (fun i hi => (zcq_all hv6_0 i hi).1)
  refine lv_iload hx hb dX9_readTen_6 (lv_at hl 0 rfl) ?_
  refine lv_iconst (v := nI 4) hx hb dX9_readTen_8 (by decide) ?_
  refine lv_icmp_ge (tgt := 86) hx hb dX9_readTen_9 (by decide) (fun c_5 => ?_) (fun c_5 => ?_)
  · have c_5 := zle (i := 4) (j := k) (by decide) (by omega) c_5
    have hE_ : 4 = k := by omega
    subst hE_
    have h44 := hv6_0
    refine lv_iconst (v := nI 1) hx hb dX9_readTen_86 (by decide) ?_
    have e_6 : nI (pl + 4) = nI (pl + zcq (zoT bf len pl) 4) := by first | (rw [if_neg hst.2]; rfl) | (rw [if_pos h44]; rfl) | (rw [h44]; done)
    have hP : va_P D vwCl [(M, .inr (9, [.int th, .ref mtx, .int (nI len), .int (nI (pl + zcq (zoT bf len pl) 4)), .int rt, .int fr, .int pr, .ref mod_, .int (nI n), .ref mne, .ref mro, .int (nI m), .int rrt, .int rfr, .int rpr, .ref mrod, .int (nI rn9), .ref mrne, .ref mrro, .int (nI rm9), .ref mrp, .ref mpg, .ref mbk, .int (nI ac), .ref mke, .ref mik, .int (nI cr), .ref mrw, .ref mrd, .long sd, .ref mtr, .ref mwo, .ref mnx, .int jr])), (mtx, .inl (cI, 64, .inl bf)), (q1, .inl (cI, 4, .inl (zpu te b7 (zpd bf pl) 4)))] H := Eq.subst (motive := fun zz_ => va_P D vwCl [(M, .inr (9, [.int th, .ref mtx, .int (nI len), .int zz_, .int rt, .int fr, .int pr, .ref mod_, .int (nI n), .ref mne, .ref mro, .int (nI m), .int rrt, .int rfr, .int rpr, .ref mrod, .int (nI rn9), .ref mrne, .ref mrro, .int (nI rm9), .ref mrp, .ref mpg, .ref mbk, .int (nI ac), .ref mke, .ref mik, .int (nI cr), .ref mrw, .ref mrd, .long sd, .ref mtr, .ref mwo, .ref mnx, .int jr])), (mtx, .inl (cI, 64, .inl bf)), (q1, .inl (cI, 4, .inl (zpu te b7 (zpd bf pl) 4)))] H) e_6 hP
    have hD : va_D A [(M, .inr (9, [.int th, .ref mtx, .int (nI len), .int (nI (pl + zcq (zoT bf len pl) 4)), .int rt, .int fr, .int pr, .ref mod_, .int (nI n), .ref mne, .ref mro, .int (nI m), .int rrt, .int rfr, .int rpr, .ref mrod, .int (nI rn9), .ref mrne, .ref mrro, .int (nI rm9), .ref mrp, .ref mpg, .ref mbk, .int (nI ac), .ref mke, .ref mik, .int (nI cr), .ref mrw, .ref mrd, .long sd, .ref mtr, .ref mwo, .ref mnx, .int jr])), (mtx, .inl (cI, 64, .inl bf)), (q1, .inl (cI, 4, .inl (zpu te b7 (zpd bf pl) 4)))] := zD_of hD rfl
    exact z_zret Z (zpu te b7 (zpd bf pl) 4) (by decide) ⟨(by first | (rw [if_neg hst.2]; rfl) | (rw [if_pos h44]; rfl) | (rw [h44]; done)), (by first | exact fun z => absurd z hst.2 | exact fun _ => rfl)⟩ hP hS dX9_readTen_87
  · have c_5 := znle (i := 4) (j := k) (by decide) (by omega) c_5
    refine lv_bipush (v := nI 9) hx hb dX9_readTen_12 (by decide) ?_
    refine lv_iconst (v := nI 3) hx hb dX9_readTen_14 (by decide) ?_
    refine lv_iload hx hb dX9_readTen_15 (lv_at hl 0 rfl) ?_
    refine lv_isub hx hb dX9_readTen_17 ?_
    refine z_top (y := nI (3 - k)) (z_sub' (by omega)) ?_
    refine lv_imul hx hb dX9_readTen_18 ?_
    refine z_top (y := nI (9 * (3 - k))) (z_mul _ _) ?_
    refine lv_istore (lv' := [(5, .int (nI (9 * (3 - k)))), (4, .int (nI k)), (3, .int (nI (zlf bf pl k))), (0, .ref M), (1, .ref q1), (2, .int (nI b7))]) hx hb dX9_readTen_19 hl (by decide) rfl (fun ls hl => ?_)
    refine z_cut (fun H locs ls => va_P D vwCl [(M, .inr (9, [.int th, .ref mtx, .int (nI len), .int (nI (pl + k)), .int rt, .int fr, .int pr, .ref mod_, .int (nI n), .ref mne, .ref mro, .int (nI m), .int rrt, .int rfr, .int rpr, .ref mrod, .int (nI rn9), .ref mrne, .ref mrro, .int (nI rm9), .ref mrp, .ref mpg, .ref mbk, .int (nI ac), .ref mke, .ref mik, .int (nI cr), .ref mrw, .ref mrd, .long sd, .ref mtr, .ref mwo, .ref mnx, .int jr])), (mtx, .inl (cI, 64, .inl bf)), (q1, .inl (cI, 4, .inl (zpu te b7 (zpd bf pl) k)))] H ∧ va_D A [(M, .inr (9, [.int th, .ref mtx, .int (nI len), .int (nI (pl + k)), .int rt, .int fr, .int pr, .ref mod_, .int (nI n), .ref mne, .ref mro, .int (nI m), .int rrt, .int rfr, .int rpr, .ref mrod, .int (nI rn9), .ref mrne, .ref mrro, .int (nI rm9), .ref mrp, .ref mpg, .ref mbk, .int (nI ac), .ref mke, .ref mik, .int (nI cr), .ref mrw, .ref mrd, .long sd, .ref mtr, .ref mwo, .ref mnx, .int jr])), (mtx, .inl (cI, 64, .inl bf)), (q1, .inl (cI, 4, .inl (zpu te b7 (zpd bf pl) k)))] ∧ va_S A sS.heap H locs ∧ lv_has ls 8 [(5, .int (nI (9 * (3 - k)))), (4, .int (nI k)), (3, .int (nI (zlf bf pl k))), (0, .ref M), (1, .ref q1), (2, .int (nI b7))]) 36 [.int (nI (zlf bf pl k - 9 * (3 - k)))] (fun H locs ls hI => ?_) (fun k_7 => ?_)
    · obtain ⟨hP, hD, hS, hl⟩ := hI
      refine lv_istore (lv' := [(6, .int (nI (zlf bf pl k - 9 * (3 - k)))), (5, .int (nI (9 * (3 - k)))), (4, .int (nI k)), (3, .int (nI (zlf bf pl k))), (0, .ref M), (1, .ref q1), (2, .int (nI b7))]) hx hb dX9_readTen_36 hl (by decide) rfl (fun ls hl => ?_)
      refine lv_aload_n hx hb dX9_readTen_38 rfl (lv_at hl 4 rfl) ?_
      refine lv_iload hx hb dX9_readTen_39 (lv_at hl 0 rfl) ?_
      refine z_cut (fun H locs ls => va_P D vwCl [(M, .inr (9, [.int th, .ref mtx, .int (nI len), .int (nI (pl + k)), .int rt, .int fr, .int pr, .ref mod_, .int (nI n), .ref mne, .ref mro, .int (nI m), .int rrt, .int rfr, .int rpr, .ref mrod, .int (nI rn9), .ref mrne, .ref mrro, .int (nI rm9), .ref mrp, .ref mpg, .ref mbk, .int (nI ac), .ref mke, .ref mik, .int (nI cr), .ref mrw, .ref mrd, .long sd, .ref mtr, .ref mwo, .ref mnx, .int jr])), (mtx, .inl (cI, 64, .inl bf)), (q1, .inl (cI, 4, .inl (zpu te b7 (zpd bf pl) k)))] H ∧ va_D A [(M, .inr (9, [.int th, .ref mtx, .int (nI len), .int (nI (pl + k)), .int rt, .int fr, .int pr, .ref mod_, .int (nI n), .ref mne, .ref mro, .int (nI m), .int rrt, .int rfr, .int rpr, .ref mrod, .int (nI rn9), .ref mrne, .ref mrro, .int (nI rm9), .ref mrp, .ref mpg, .ref mbk, .int (nI ac), .ref mke, .ref mik, .int (nI cr), .ref mrw, .ref mrd, .long sd, .ref mtr, .ref mwo, .ref mnx, .int jr])), (mtx, .inl (cI, 64, .inl bf)), (q1, .inl (cI, 4, .inl (zpu te b7 (zpd bf pl) k)))] ∧ va_S A sS.heap H locs ∧ lv_has ls 8 [(6, .int (nI (zlf bf pl k - 9 * (3 - k)))), (5, .int (nI (9 * (3 - k)))), (4, .int (nI k)), (3, .int (nI (zlf bf pl k))), (0, .ref M), (1, .ref q1), (2, .int (nI b7))]) 53 [.int (nI (if zlf bf pl k < 9 then zlf bf pl k else 9)), .int (nI (zlf bf pl k - 9 * (3 - k))), .ref M] (fun H locs ls hI => ?_) (fun k_8 => ?_)
      · obtain ⟨hP, hD, hS, hl⟩ := hI
        refine z_callVi (As := [.int (nI (zlf bf pl k - 9 * (3 - k))), .int (nI (if zlf bf pl k < 9 then zlf bf pl k else 9))]) (rest := []) (ci := 9) (k0 := 0) Z hP hD hS hl.1 (zc_X9_figure l D cI cZ M th mtx len (pl + k) rt fr pr mod_ n mne mro m rrt rfr rpr mrod rn9 mrne mrro rm9 mrp mpg mbk ac mke mik cr mrw mrd sd mtr mwo mnx jr bf (zlf bf pl k - 9 * (3 - k)) (if zlf bf pl k < 9 then zlf bf pl k else 9) (by omega) (by omega) (by omega) (by split <;> omega)) zm764 zm765 zm13 zm39 zm766 ⟨rfl, zd_X9_figure⟩ ⟨Nat.le_of_ble_eq_true rfl, Nat.le_of_ble_eq_true rfl⟩ ⟨Nat.zero_le _, Nat.zero_le _⟩ [0, 1] rfl (by decide) rfl rfl rfl (fun _ => rfl) rfl (Nat.le_of_ble_eq_true rfl) rfl dX9_readTen_53 (fun r_9 u H locs h_10 hP hD hS => ?_)
        have hP : va_P D vwCl [(M, .inr (9, [.int th, .ref mtx, .int (nI len), .int (nI (if zoR bf len (pl + k) (zlf bf pl k - 9 * (3 - k)) (if zlf bf pl k < 9 then zlf bf pl k else 9) = true then (pl + k) + 1 else (pl + k))), .int rt, .int fr, .int pr, .ref mod_, .int (nI n), .ref mne, .ref mro, .int (nI m), .int rrt, .int rfr, .int rpr, .ref mrod, .int (nI rn9), .ref mrne, .ref mrro, .int (nI rm9), .ref mrp, .ref mpg, .ref mbk, .int (nI ac), .ref mke, .ref mik, .int (nI cr), .ref mrw, .ref mrd, .long sd, .ref mtr, .ref mwo, .ref mnx, .int jr])), (mtx, .inl (cI, 64, .inl bf)), (q1, .inl (cI, 4, .inl (zpu te b7 (zpd bf pl) k)))] H := hP
        have hD : va_D A [(M, .inr (9, [.int th, .ref mtx, .int (nI len), .int (nI (if zoR bf len (pl + k) (zlf bf pl k - 9 * (3 - k)) (if zlf bf pl k < 9 then zlf bf pl k else 9) = true then (pl + k) + 1 else (pl + k))), .int rt, .int fr, .int pr, .ref mod_, .int (nI n), .ref mne, .ref mro, .int (nI m), .int rrt, .int rfr, .int rpr, .ref mrod, .int (nI rn9), .ref mrne, .ref mrro, .int (nI rm9), .ref mrp, .ref mpg, .ref mbk, .int (nI ac), .ref mke, .ref mik, .int (nI cr), .ref mrw, .ref mrd, .long sd, .ref mtr, .ref mwo, .ref mnx, .int jr])), (mtx, .inl (cI, 64, .inl bf)), (q1, .inl (cI, 4, .inl (zpu te b7 (zpd bf pl) k)))] := hD
        have h_10 : r_9 = if zoR bf len (pl + k) (zlf bf pl k - 9 * (3 - k)) (if zlf bf pl k < 9 then zlf bf pl k else 9) = true then nI (zdg bf (pl + k)) else -9 := h_10
        subst h_10
        refine lv_istore (lv' := [(7, .int (if zoR bf len (pl + k) (zlf bf pl k - 9 * (3 - k)) (if zlf bf pl k < 9 then zlf bf pl k else 9) = true then nI (zdg bf (pl + k)) else -9)), (6, .int (nI (zlf bf pl k - 9 * (3 - k)))), (5, .int (nI (9 * (3 - k)))), (4, .int (nI k)), (3, .int (nI (zlf bf pl k))), (0, .ref M), (1, .ref q1), (2, .int (nI b7))]) hx hb dX9_readTen_56 hl (by decide) rfl (fun ls hl => ?_)
        refine lv_iload hx hb dX9_readTen_58 (lv_at hl 0 rfl) ?_
        refine lv_bipush (v := -9) hx hb dX9_readTen_60 (by decide) ?_
        refine lv_icmp_ne (tgt := 67) hx hb dX9_readTen_62 (by decide) (fun c_11 => ?_) (fun c_11 => ?_)
        · have c_11 : ¬ ((if zoR bf len (pl + k) (zlf bf pl k - 9 * (3 - k)) (if zlf bf pl k < 9 then zlf bf pl k else 9) = true then nI (zdg bf (pl + k)) else -9) = (-9 : Int32)) := c_11
          have hok : zoT bf len pl k = true := zif9_y c_11
          have hd := zoT_d hok hbb.1 hbb.2 (by omega)
          have hE : (if zoR bf len (pl + k) (zlf bf pl k - 9 * (3 - k)) (if zlf bf pl k < 9 then zlf bf pl k else 9) = true then nI (zdg bf (pl + k)) else -9 : Int32) = (nI (zdg bf (pl + k))) := if_pos hok
          have hl : lv_has ls 8 [(7, .int (nI (zdg bf (pl + k)))), (6, .int (nI (zlf bf pl k - 9 * (3 - k)))), (5, .int (nI (9 * (3 - k)))), (4, .int (nI k)), (3, .int (nI (zlf bf pl k))), (0, .ref M), (1, .ref q1), (2, .int (nI b7))] := Eq.subst (motive := fun zz_ => lv_has ls 8 [(7, .int zz_), (6, .int (nI (zlf bf pl k - 9 * (3 - k)))), (5, .int (nI (9 * (3 - k)))), (4, .int (nI k)), (3, .int (nI (zlf bf pl k))), (0, .ref M), (1, .ref q1), (2, .int (nI b7))]) hE hl
          have e_12 : nI (if zoR bf len (pl + k) (zlf bf pl k - 9 * (3 - k)) (if zlf bf pl k < 9 then zlf bf pl k else 9) = true then (pl + k) + 1 else (pl + k)) = nI (pl + k + 1) := by rw [show nI (if zoR bf len (pl + k) (zlf bf pl k - 9 * (3 - k)) (if zlf bf pl k < 9 then zlf bf pl k else 9) = true then pl + k + 1 else pl + k) = nI (pl + k + 1) from congrArg nI (if_pos hok)]
          have hP : va_P D vwCl [(M, .inr (9, [.int th, .ref mtx, .int (nI len), .int (nI (pl + k + 1)), .int rt, .int fr, .int pr, .ref mod_, .int (nI n), .ref mne, .ref mro, .int (nI m), .int rrt, .int rfr, .int rpr, .ref mrod, .int (nI rn9), .ref mrne, .ref mrro, .int (nI rm9), .ref mrp, .ref mpg, .ref mbk, .int (nI ac), .ref mke, .ref mik, .int (nI cr), .ref mrw, .ref mrd, .long sd, .ref mtr, .ref mwo, .ref mnx, .int jr])), (mtx, .inl (cI, 64, .inl bf)), (q1, .inl (cI, 4, .inl (zpu te b7 (zpd bf pl) k)))] H := Eq.subst (motive := fun zz_ => va_P D vwCl [(M, .inr (9, [.int th, .ref mtx, .int (nI len), .int zz_, .int rt, .int fr, .int pr, .ref mod_, .int (nI n), .ref mne, .ref mro, .int (nI m), .int rrt, .int rfr, .int rpr, .ref mrod, .int (nI rn9), .ref mrne, .ref mrro, .int (nI rm9), .ref mrp, .ref mpg, .ref mbk, .int (nI ac), .ref mke, .ref mik, .int (nI cr), .ref mrw, .ref mrd, .long sd, .ref mtr, .ref mwo, .ref mnx, .int jr])), (mtx, .inl (cI, 64, .inl bf)), (q1, .inl (cI, 4, .inl (zpu te b7 (zpd bf pl) k)))] H) e_12 hP
          have hD : va_D A [(M, .inr (9, [.int th, .ref mtx, .int (nI len), .int (nI (pl + k + 1)), .int rt, .int fr, .int pr, .ref mod_, .int (nI n), .ref mne, .ref mro, .int (nI m), .int rrt, .int rfr, .int rpr, .ref mrod, .int (nI rn9), .ref mrne, .ref mrro, .int (nI rm9), .ref mrp, .ref mpg, .ref mbk, .int (nI ac), .ref mke, .ref mik, .int (nI cr), .ref mrw, .ref mrd, .long sd, .ref mtr, .ref mwo, .ref mnx, .int jr])), (mtx, .inl (cI, 64, .inl bf)), (q1, .inl (cI, 4, .inl (zpu te b7 (zpd bf pl) k)))] := zD_of hD rfl
          refine lv_aload_n hx hb dX9_readTen_67 rfl (lv_at hl 6 rfl) ?_
          refine lv_iload_n hx hb dX9_readTen_68 rfl (lv_at hl 7 rfl) ?_
          refine lv_iload hx hb dX9_readTen_69 (lv_at hl 3 rfl) ?_
          refine lv_iadd hx hb dX9_readTen_71 ?_
          refine z_top (y := nI (b7 + k)) (z_add _ _) ?_
          refine lv_iload hx hb dX9_readTen_72 (lv_at hl 0 rfl) ?_
          refine z_iast (n := 4) (f := zpu te b7 (zpd bf pl) k) (j := b7 + k) (x := nI (zdg bf (pl + k))) Z hP hD hS 2 rfl (by omega) (by decide) dX9_readTen_74 (fun H locs hP hD hS => ?_)
          have hP : va_P D vwCl [(M, .inr (9, [.int th, .ref mtx, .int (nI len), .int (nI (pl + k + 1)), .int rt, .int fr, .int pr, .ref mod_, .int (nI n), .ref mne, .ref mro, .int (nI m), .int rrt, .int rfr, .int rpr, .ref mrod, .int (nI rn9), .ref mrne, .ref mrro, .int (nI rm9), .ref mrp, .ref mpg, .ref mbk, .int (nI ac), .ref mke, .ref mik, .int (nI cr), .ref mrw, .ref mrd, .long sd, .ref mtr, .ref mwo, .ref mnx, .int jr])), (mtx, .inl (cI, 64, .inl bf)), (q1, .inl (cI, 4, .inl (upd (zpu te b7 (zpd bf pl) k) (b7 + k) (nI (zdg bf (pl + k))))))] H := hP
          have hD : va_D A [(M, .inr (9, [.int th, .ref mtx, .int (nI len), .int (nI (pl + k + 1)), .int rt, .int fr, .int pr, .ref mod_, .int (nI n), .ref mne, .ref mro, .int (nI m), .int rrt, .int rfr, .int rpr, .ref mrod, .int (nI rn9), .ref mrne, .ref mrro, .int (nI rm9), .ref mrp, .ref mpg, .ref mbk, .int (nI ac), .ref mke, .ref mik, .int (nI cr), .ref mrw, .ref mrd, .long sd, .ref mtr, .ref mwo, .ref mnx, .int jr])), (mtx, .inl (cI, 64, .inl bf)), (q1, .inl (cI, 4, .inl (upd (zpu te b7 (zpd bf pl) k) (b7 + k) (nI (zdg bf (pl + k))))))] := hD
          refine lv_iload_n hx hb dX9_readTen_75 rfl (lv_at hl 4 rfl) ?_
          refine lv_iload hx hb dX9_readTen_76 (lv_at hl 0 rfl) ?_
          refine lv_isub hx hb dX9_readTen_78 ?_
          refine z_top (y := nI ((zlf bf pl k) - (zdg bf (pl + k)))) (z_sub' (by omega)) ?_
          refine lv_istore_n (lv' := [(3, .int (nI ((zlf bf pl k) - (zdg bf (pl + k))))), (7, .int (nI (zdg bf (pl + k)))), (6, .int (nI (zlf bf pl k - 9 * (3 - k)))), (5, .int (nI (9 * (3 - k)))), (4, .int (nI k)), (0, .ref M), (1, .ref q1), (2, .int (nI b7))]) hx hb dX9_readTen_79 rfl hl (by decide) rfl (fun ls hl => ?_)
          refine lv_iinc (v := nI (k + 1)) (lv' := [(4, .int (nI (k + 1))), (3, .int (nI ((zlf bf pl k) - (zdg bf (pl + k))))), (7, .int (nI (zdg bf (pl + k)))), (6, .int (nI (zlf bf pl k - 9 * (3 - k)))), (5, .int (nI (9 * (3 - k)))), (0, .ref M), (1, .ref q1), (2, .int (nI b7))]) hx hb dX9_readTen_80 hl (k := 4) rfl (z_inc _ 1) (by decide) rfl (fun ls hl => ?_)
          refine lv_goto (tgt := 6) hx hb dX9_readTen_83 (by decide) ?_
          have e_13 : nI (pl + k + 1) = nI (pl + (k + 1)) := by rfl
          have hP : va_P D vwCl [(M, .inr (9, [.int th, .ref mtx, .int (nI len), .int (nI (pl + (k + 1))), .int rt, .int fr, .int pr, .ref mod_, .int (nI n), .ref mne, .ref mro, .int (nI m), .int rrt, .int rfr, .int rpr, .ref mrod, .int (nI rn9), .ref mrne, .ref mrro, .int (nI rm9), .ref mrp, .ref mpg, .ref mbk, .int (nI ac), .ref mke, .ref mik, .int (nI cr), .ref mrw, .ref mrd, .long sd, .ref mtr, .ref mwo, .ref mnx, .int jr])), (mtx, .inl (cI, 64, .inl bf)), (q1, .inl (cI, 4, .inl (upd (zpu te b7 (zpd bf pl) k) (b7 + k) (nI (zdg bf (pl + k))))))] H := Eq.subst (motive := fun zz_ => va_P D vwCl [(M, .inr (9, [.int th, .ref mtx, .int (nI len), .int zz_, .int rt, .int fr, .int pr, .ref mod_, .int (nI n), .ref mne, .ref mro, .int (nI m), .int rrt, .int rfr, .int rpr, .ref mrod, .int (nI rn9), .ref mrne, .ref mrro, .int (nI rm9), .ref mrp, .ref mpg, .ref mbk, .int (nI ac), .ref mke, .ref mik, .int (nI cr), .ref mrw, .ref mrd, .long sd, .ref mtr, .ref mwo, .ref mnx, .int jr])), (mtx, .inl (cI, 64, .inl bf)), (q1, .inl (cI, 4, .inl (upd (zpu te b7 (zpd bf pl) k) (b7 + k) (nI (zdg bf (pl + k))))))] H) e_13 hP
          have e_14 : upd (zpu te b7 (zpd bf pl) k) (b7 + k) (nI (zdg bf (pl + k))) = zpu te b7 (zpd bf pl) (k + 1) := by rfl
          have hP : va_P D vwCl [(M, .inr (9, [.int th, .ref mtx, .int (nI len), .int (nI (pl + (k + 1))), .int rt, .int fr, .int pr, .ref mod_, .int (nI n), .ref mne, .ref mro, .int (nI m), .int rrt, .int rfr, .int rpr, .ref mrod, .int (nI rn9), .ref mrne, .ref mrro, .int (nI rm9), .ref mrp, .ref mpg, .ref mbk, .int (nI ac), .ref mke, .ref mik, .int (nI cr), .ref mrw, .ref mrd, .long sd, .ref mtr, .ref mwo, .ref mnx, .int jr])), (mtx, .inl (cI, 64, .inl bf)), (q1, .inl (cI, 4, .inl (zpu te b7 (zpd bf pl) (k + 1))))] H := Eq.subst (motive := fun zz_ => va_P D vwCl [(M, .inr (9, [.int th, .ref mtx, .int (nI len), .int (nI (pl + (k + 1))), .int rt, .int fr, .int pr, .ref mod_, .int (nI n), .ref mne, .ref mro, .int (nI m), .int rrt, .int rfr, .int rpr, .ref mrod, .int (nI rn9), .ref mrne, .ref mrro, .int (nI rm9), .ref mrp, .ref mpg, .ref mbk, .int (nI ac), .ref mke, .ref mik, .int (nI cr), .ref mrw, .ref mrd, .long sd, .ref mtr, .ref mwo, .ref mnx, .int jr])), (mtx, .inl (cI, 64, .inl bf)), (q1, .inl (cI, 4, .inl zz_))] H) e_14 hP
          have hD : va_D A [(M, .inr (9, [.int th, .ref mtx, .int (nI len), .int (nI (pl + (k + 1))), .int rt, .int fr, .int pr, .ref mod_, .int (nI n), .ref mne, .ref mro, .int (nI m), .int rrt, .int rfr, .int rpr, .ref mrod, .int (nI rn9), .ref mrne, .ref mrro, .int (nI rm9), .ref mrp, .ref mpg, .ref mbk, .int (nI ac), .ref mke, .ref mik, .int (nI cr), .ref mrw, .ref mrd, .long sd, .ref mtr, .ref mwo, .ref mnx, .int jr])), (mtx, .inl (cI, 64, .inl bf)), (q1, .inl (cI, 4, .inl (zpu te b7 (zpd bf pl) (k + 1))))] := zD_of hD rfl
          have hl : lv_has ls 8 [(4, .int (nI (k + 1))), (3, .int (nI ((zlf bf pl k) - (zdg bf (pl + k))))), (0, .ref M), (1, .ref q1), (2, .int (nI b7))] := lv_sub hl [0, 1, 5, 6, 7] rfl
          have e_15 : nI ((zlf bf pl k) - (zdg bf (pl + k))) = nI (zlf bf pl (k + 1)) := by rfl
          have hl : lv_has ls 8 [(4, .int (nI (k + 1))), (3, .int (nI (zlf bf pl (k + 1)))), (0, .ref M), (1, .ref q1), (2, .int (nI b7))] := Eq.subst (motive := fun zz_ => lv_has ls 8 [(4, .int (nI (k + 1))), (3, .int zz_), (0, .ref M), (1, .ref q1), (2, .int (nI b7))]) e_15 hl
          exact ih_1 _ _ _ (by omega) ⟨hP, hD, hS, hl, (by first | exact zcq_y hv6_0 hok | omega), (by first | exact zcq_y hv6_0 hok | omega)⟩
        · have c_11 : (if zoR bf len (pl + k) (zlf bf pl k - 9 * (3 - k)) (if zlf bf pl k < 9 then zlf bf pl k else 9) = true then nI (zdg bf (pl + k)) else -9) = (-9 : Int32) := c_11
          have hno : ¬ zoT bf len pl k = true := zif9_n (by omega) (by split <;> omega) c_11
          have hst := zcqT_stop hv6_0 hno (by omega)
          have e_16 : nI (if zoR bf len (pl + k) (zlf bf pl k - 9 * (3 - k)) (if zlf bf pl k < 9 then zlf bf pl k else 9) = true then (pl + k) + 1 else (pl + k)) = nI (pl + zcq (zoT bf len pl) 4) := by rw [show nI (if zoR bf len (pl + k) (zlf bf pl k - 9 * (3 - k)) (if zlf bf pl k < 9 then zlf bf pl k else 9) = true then pl + k + 1 else pl + k) = nI (pl + k) from congrArg nI (if_neg hno), hst.1]
          have hP : va_P D vwCl [(M, .inr (9, [.int th, .ref mtx, .int (nI len), .int (nI (pl + zcq (zoT bf len pl) 4)), .int rt, .int fr, .int pr, .ref mod_, .int (nI n), .ref mne, .ref mro, .int (nI m), .int rrt, .int rfr, .int rpr, .ref mrod, .int (nI rn9), .ref mrne, .ref mrro, .int (nI rm9), .ref mrp, .ref mpg, .ref mbk, .int (nI ac), .ref mke, .ref mik, .int (nI cr), .ref mrw, .ref mrd, .long sd, .ref mtr, .ref mwo, .ref mnx, .int jr])), (mtx, .inl (cI, 64, .inl bf)), (q1, .inl (cI, 4, .inl (zpu te b7 (zpd bf pl) k)))] H := Eq.subst (motive := fun zz_ => va_P D vwCl [(M, .inr (9, [.int th, .ref mtx, .int (nI len), .int zz_, .int rt, .int fr, .int pr, .ref mod_, .int (nI n), .ref mne, .ref mro, .int (nI m), .int rrt, .int rfr, .int rpr, .ref mrod, .int (nI rn9), .ref mrne, .ref mrro, .int (nI rm9), .ref mrp, .ref mpg, .ref mbk, .int (nI ac), .ref mke, .ref mik, .int (nI cr), .ref mrw, .ref mrd, .long sd, .ref mtr, .ref mwo, .ref mnx, .int jr])), (mtx, .inl (cI, 64, .inl bf)), (q1, .inl (cI, 4, .inl (zpu te b7 (zpd bf pl) k)))] H) e_16 hP
          have hD : va_D A [(M, .inr (9, [.int th, .ref mtx, .int (nI len), .int (nI (pl + zcq (zoT bf len pl) 4)), .int rt, .int fr, .int pr, .ref mod_, .int (nI n), .ref mne, .ref mro, .int (nI m), .int rrt, .int rfr, .int rpr, .ref mrod, .int (nI rn9), .ref mrne, .ref mrro, .int (nI rm9), .ref mrp, .ref mpg, .ref mbk, .int (nI ac), .ref mke, .ref mik, .int (nI cr), .ref mrw, .ref mrd, .long sd, .ref mtr, .ref mwo, .ref mnx, .int jr])), (mtx, .inl (cI, 64, .inl bf)), (q1, .inl (cI, 4, .inl (zpu te b7 (zpd bf pl) k)))] := zD_of hD rfl
          refine lv_iconst (v := nI 0) hx hb dX9_readTen_65 (by decide) ?_
          exact z_zret Z (zpu te b7 (zpd bf pl) k) (by decide) ⟨(by first | (rw [if_neg hst.2]; rfl) | (rw [if_pos h44]; rfl) | (rw [h44]; done)), (by first | exact fun z => absurd z hst.2 | exact fun _ => rfl)⟩ hP hS dX9_readTen_66
      · skip
        refine lv_iload_n hx hb dX9_readTen_41 rfl (lv_at hl 3 rfl) ?_
        refine lv_bipush (v := nI 9) hx hb dX9_readTen_42 (by decide) ?_
        refine lv_icmp_ge (tgt := 51) hx hb dX9_readTen_44 (by decide) (fun c_17 => ?_) (fun c_17 => ?_)
        · have c_17 := zle (i := 9) (j := zlf bf pl k) (by decide) (by omega) c_17
          refine lv_bipush (v := nI 9) hx hb dX9_readTen_51 (by decide) ?_
          have hl : lv_has ls 8 [(6, .int (nI (zlf bf pl k - 9 * (3 - k)))), (5, .int (nI (9 * (3 - k)))), (4, .int (nI k)), (3, .int (nI (zlf bf pl k))), (0, .ref M), (1, .ref q1), (2, .int (nI b7))] := lv_sub hl [0, 1, 2, 3, 4, 5, 6] rfl
          refine z_top (y := nI (if zlf bf pl k < 9 then zlf bf pl k else 9)) (by first | exact congrArg nI (if_pos (by omega)).symm | exact congrArg nI (if_neg (by omega)).symm) ?_
          exact k_8 _ _ _ ⟨hP, hD, hS, hl⟩
        · have c_17 := znle (i := 9) (j := zlf bf pl k) (by decide) (by omega) c_17
          refine lv_iload_n hx hb dX9_readTen_47 rfl (lv_at hl 3 rfl) ?_
          refine lv_goto (tgt := 53) hx hb dX9_readTen_48 (by decide) ?_
          have hl : lv_has ls 8 [(6, .int (nI (zlf bf pl k - 9 * (3 - k)))), (5, .int (nI (9 * (3 - k)))), (4, .int (nI k)), (3, .int (nI (zlf bf pl k))), (0, .ref M), (1, .ref q1), (2, .int (nI b7))] := lv_sub hl [0, 1, 2, 3, 4, 5, 6] rfl
          refine z_top (y := nI (if zlf bf pl k < 9 then zlf bf pl k else 9)) (by first | exact congrArg nI (if_pos (by omega)).symm | exact congrArg nI (if_neg (by omega)).symm) ?_
          exact k_8 _ _ _ ⟨hP, hD, hS, hl⟩
    · skip
      refine lv_iload_n hx hb dX9_readTen_21 rfl (lv_at hl 2 rfl) ?_
      refine lv_iload hx hb dX9_readTen_22 (lv_at hl 0 rfl) ?_
      refine lv_isub hx hb dX9_readTen_24 ?_
      refine lv_if_ge (tgt := 32) hx hb dX9_readTen_25 (by decide) (fun c_18 => ?_) (fun c_18 => ?_)
      · have c_18 : 0 ≤ ((nI (zlf bf pl k)) - (nI (9 * (3 - k)))) := c_18
        refine lv_iload_n hx hb dX9_readTen_32 rfl (lv_at hl 2 rfl) ?_
        refine lv_iload hx hb dX9_readTen_33 (lv_at hl 0 rfl) ?_
        refine lv_isub hx hb dX9_readTen_35 ?_
        have hl : lv_has ls 8 [(5, .int (nI (9 * (3 - k)))), (4, .int (nI k)), (3, .int (nI (zlf bf pl k))), (0, .ref M), (1, .ref q1), (2, .int (nI b7))] := lv_sub hl [0, 1, 2, 3, 4, 5] rfl
        refine z_top (y := nI (zlf bf pl k - 9 * (3 - k))) (by first | exact zsub_y (by omega) (by omega) (by assumption) | exact zsub_n (by omega) (by omega) (by assumption)) ?_
        exact k_7 _ _ _ ⟨hP, hD, hS, hl⟩
      · have c_18 : ¬ (0 ≤ ((nI (zlf bf pl k)) - (nI (9 * (3 - k))))) := c_18
        refine lv_iconst (v := nI 0) hx hb dX9_readTen_28 (by decide) ?_
        refine lv_goto (tgt := 36) hx hb dX9_readTen_29 (by decide) ?_
        have hl : lv_has ls 8 [(5, .int (nI (9 * (3 - k)))), (4, .int (nI k)), (3, .int (nI (zlf bf pl k))), (0, .ref M), (1, .ref q1), (2, .int (nI b7))] := lv_sub hl [0, 1, 2, 3, 4, 5] rfl
        refine z_top (y := nI (zlf bf pl k - 9 * (3 - k))) (by first | exact zsub_y (by omega) (by omega) (by assumption) | exact zsub_n (by omega) (by omega) (by assumption)) ?_
        exact k_7 _ _ _ ⟨hP, hD, hS, hl⟩

set_option maxHeartbeats 4000000 in
set_option maxRecDepth 100000 in
theorem zc_X9_readTenB (l : Launch) (D : va_G) (cI cZ : ClassId) (M : Nat) (th : Int32) (mtx : Nat) (len : Nat) (pl : Nat) (rt : Int32) (fr : Int32) (pr : Int32) (mod_ : Nat) (n : Nat) (mne : Nat) (mro : Nat) (m : Nat) (rrt : Int32) (rfr : Int32) (rpr : Int32) (mrod : Nat) (rn9 : Nat) (mrne : Nat) (mrro : Nat) (rm9 : Nat) (mrp : Nat) (mpg : Nat) (mbk : Nat) (ac : Nat) (mke : Nat) (mik : Nat) (cr : Nat) (mrw : Nat) (mrd : Nat) (sd : Int64) (mtr : Nat) (mwo : Nat) (mnx : Nat) (jr : Int32) (bf : Nat → Int32) (q1 : Nat) (te : Nat → Int32) (b7 : Nat) (hlen : len ≤ 64) (hpl : pl ≤ len) (hb7 : b7 + 4 ≤ 36) : zI l yX9_readTen cX9_readTen 8 .boolean 2 47 D cI cZ [.ref M, .ref q1, .int (nI b7)] [(M, .inr (9, [.int th, .ref mtx, .int (nI len), .int (nI pl), .int rt, .int fr, .int pr, .ref mod_, .int (nI n), .ref mne, .ref mro, .int (nI m), .int rrt, .int rfr, .int rpr, .ref mrod, .int (nI rn9), .ref mrne, .ref mrro, .int (nI rm9), .ref mrp, .ref mpg, .ref mbk, .int (nI ac), .ref mke, .ref mik, .int (nI cr), .ref mrw, .ref mrd, .long sd, .ref mtr, .ref mwo, .ref mnx, .int jr])), (mtx, .inl (cI, 64, .inl bf)), (q1, .inl (cI, 36, .inl te))] (fun (r : Int32) (u : (Nat → Int32)) => (r = if zcq (zoT bf len pl) 4 = 4 then 1 else 0) ∧ (zcq (zoT bf len pl) 4 = 4 → u = zpu te b7 (zpd bf pl) 4)) (fun (u : (Nat → Int32)) => [(M, .inr (9, [.int th, .ref mtx, .int (nI len), .int (nI (pl + zcq (zoT bf len pl) 4)), .int rt, .int fr, .int pr, .ref mod_, .int (nI n), .ref mne, .ref mro, .int (nI m), .int rrt, .int rfr, .int rpr, .ref mrod, .int (nI rn9), .ref mrne, .ref mrro, .int (nI rm9), .ref mrp, .ref mpg, .ref mbk, .int (nI ac), .ref mke, .ref mik, .int (nI cr), .ref mrw, .ref mrd, .long sd, .ref mtr, .ref mwo, .ref mnx, .int jr])), (mtx, .inl (cI, 64, .inl bf)), (q1, .inl (cI, 36, .inl u))]) := by
  refine zI_of (by decide) (Nat.le_of_ble_eq_true rfl) ?_
  intro pP eE sS mM aA bB mT cC A ls Z hP hD hS hl
  have hx := Z.1
  have hb := Z.2.1
  have hown := Z.2.2.2.2.2.1
  have hts := Z.2.2.2.2.1
  have Z : zAt pP sS mM aA mT cC D cI cZ A "SurpriseTaxModel" cX9_readTen 8 (some .boolean) := Z
  have hl : lv_has ls 8 [(0, .ref M), (1, .ref q1), (2, .int (nI b7))] := hl
  obtain ⟨H, hH⟩ : ∃ H, H = sS.heap := ⟨_, rfl⟩
  have hP : va_P D vwCl [(M, .inr (9, [.int th, .ref mtx, .int (nI len), .int (nI pl), .int rt, .int fr, .int pr, .ref mod_, .int (nI n), .ref mne, .ref mro, .int (nI m), .int rrt, .int rfr, .int rpr, .ref mrod, .int (nI rn9), .ref mrne, .ref mrro, .int (nI rm9), .ref mrp, .ref mpg, .ref mbk, .int (nI ac), .ref mke, .ref mik, .int (nI cr), .ref mrw, .ref mrd, .long sd, .ref mtr, .ref mwo, .ref mnx, .int jr])), (mtx, .inl (cI, 64, .inl bf)), (q1, .inl (cI, 36, .inl te))] H := by rw [hH]; exact hP
  have hS : va_S A sS.heap H [] := by rw [hH]; exact hS
  rw [← hH]
  clear hH
  obtain ⟨locs, hlo⟩ : ∃ q : List Loc, q = [] := ⟨_, rfl⟩
  rw [← hlo] at hS ⊢
  clear hlo
  refine lv_bipush (v := nI 10) hx hb dX9_readTen_0 (by decide) ?_
  refine lv_istore_n (lv' := [(3, .int (nI 10)), (0, .ref M), (1, .ref q1), (2, .int (nI b7))]) hx hb dX9_readTen_2 rfl hl (by decide) rfl (fun ls hl => ?_)
  refine lv_iconst (v := nI 0) hx hb dX9_readTen_3 (by decide) ?_
  refine lv_istore (lv' := [(4, .int (nI 0)), (3, .int (nI 10)), (0, .ref M), (1, .ref q1), (2, .int (nI b7))]) hx hb dX9_readTen_4 hl (by decide) rfl (fun ls hl => ?_)
  have e_2 : nI pl = nI (pl + 0) := by rfl
  have hP : va_P D vwCl [(M, .inr (9, [.int th, .ref mtx, .int (nI len), .int (nI (pl + 0)), .int rt, .int fr, .int pr, .ref mod_, .int (nI n), .ref mne, .ref mro, .int (nI m), .int rrt, .int rfr, .int rpr, .ref mrod, .int (nI rn9), .ref mrne, .ref mrro, .int (nI rm9), .ref mrp, .ref mpg, .ref mbk, .int (nI ac), .ref mke, .ref mik, .int (nI cr), .ref mrw, .ref mrd, .long sd, .ref mtr, .ref mwo, .ref mnx, .int jr])), (mtx, .inl (cI, 64, .inl bf)), (q1, .inl (cI, 36, .inl te))] H := Eq.subst (motive := fun zz_ => va_P D vwCl [(M, .inr (9, [.int th, .ref mtx, .int (nI len), .int zz_, .int rt, .int fr, .int pr, .ref mod_, .int (nI n), .ref mne, .ref mro, .int (nI m), .int rrt, .int rfr, .int rpr, .ref mrod, .int (nI rn9), .ref mrne, .ref mrro, .int (nI rm9), .ref mrp, .ref mpg, .ref mbk, .int (nI ac), .ref mke, .ref mik, .int (nI cr), .ref mrw, .ref mrd, .long sd, .ref mtr, .ref mwo, .ref mnx, .int jr])), (mtx, .inl (cI, 64, .inl bf)), (q1, .inl (cI, 36, .inl te))] H) e_2 hP
  have e_3 : te = zpu te b7 (zpd bf pl) 0 := by rfl
  have hP : va_P D vwCl [(M, .inr (9, [.int th, .ref mtx, .int (nI len), .int (nI (pl + 0)), .int rt, .int fr, .int pr, .ref mod_, .int (nI n), .ref mne, .ref mro, .int (nI m), .int rrt, .int rfr, .int rpr, .ref mrod, .int (nI rn9), .ref mrne, .ref mrro, .int (nI rm9), .ref mrp, .ref mpg, .ref mbk, .int (nI ac), .ref mke, .ref mik, .int (nI cr), .ref mrw, .ref mrd, .long sd, .ref mtr, .ref mwo, .ref mnx, .int jr])), (mtx, .inl (cI, 64, .inl bf)), (q1, .inl (cI, 36, .inl (zpu te b7 (zpd bf pl) 0)))] H := Eq.subst (motive := fun zz_ => va_P D vwCl [(M, .inr (9, [.int th, .ref mtx, .int (nI len), .int (nI (pl + 0)), .int rt, .int fr, .int pr, .ref mod_, .int (nI n), .ref mne, .ref mro, .int (nI m), .int rrt, .int rfr, .int rpr, .ref mrod, .int (nI rn9), .ref mrne, .ref mrro, .int (nI rm9), .ref mrp, .ref mpg, .ref mbk, .int (nI ac), .ref mke, .ref mik, .int (nI cr), .ref mrw, .ref mrd, .long sd, .ref mtr, .ref mwo, .ref mnx, .int jr])), (mtx, .inl (cI, 64, .inl bf)), (q1, .inl (cI, 36, .inl zz_))] H) e_3 hP
  have hD : va_D A [(M, .inr (9, [.int th, .ref mtx, .int (nI len), .int (nI (pl + 0)), .int rt, .int fr, .int pr, .ref mod_, .int (nI n), .ref mne, .ref mro, .int (nI m), .int rrt, .int rfr, .int rpr, .ref mrod, .int (nI rn9), .ref mrne, .ref mrro, .int (nI rm9), .ref mrp, .ref mpg, .ref mbk, .int (nI ac), .ref mke, .ref mik, .int (nI cr), .ref mrw, .ref mrd, .long sd, .ref mtr, .ref mwo, .ref mnx, .int jr])), (mtx, .inl (cI, 64, .inl bf)), (q1, .inl (cI, 36, .inl (zpu te b7 (zpd bf pl) 0)))] := zD_of hD rfl
  have hl : lv_has ls 8 [(4, .int (nI 0)), (3, .int (nI 10)), (0, .ref M), (1, .ref q1), (2, .int (nI b7))] := lv_sub hl [0, 1, 2, 3, 4] rfl
  have e_4 : nI 10 = nI (zlf bf pl 0) := by rfl
  have hl : lv_has ls 8 [(4, .int (nI 0)), (3, .int (nI (zlf bf pl 0))), (0, .ref M), (1, .ref q1), (2, .int (nI b7))] := Eq.subst (motive := fun zz_ => lv_has ls 8 [(4, .int (nI 0)), (3, .int zz_), (0, .ref M), (1, .ref q1), (2, .int (nI b7))]) e_4 hl
  refine z_loop (fun k H locs ls => va_P D vwCl [(M, .inr (9, [.int th, .ref mtx, .int (nI len), .int (nI (pl + k)), .int rt, .int fr, .int pr, .ref mod_, .int (nI n), .ref mne, .ref mro, .int (nI m), .int rrt, .int rfr, .int rpr, .ref mrod, .int (nI rn9), .ref mrne, .ref mrro, .int (nI rm9), .ref mrp, .ref mpg, .ref mbk, .int (nI ac), .ref mke, .ref mik, .int (nI cr), .ref mrw, .ref mrd, .long sd, .ref mtr, .ref mwo, .ref mnx, .int jr])), (mtx, .inl (cI, 64, .inl bf)), (q1, .inl (cI, 36, .inl (zpu te b7 (zpd bf pl) k)))] H ∧ va_D A [(M, .inr (9, [.int th, .ref mtx, .int (nI len), .int (nI (pl + k)), .int rt, .int fr, .int pr, .ref mod_, .int (nI n), .ref mne, .ref mro, .int (nI m), .int rrt, .int rfr, .int rpr, .ref mrod, .int (nI rn9), .ref mrne, .ref mrro, .int (nI rm9), .ref mrp, .ref mpg, .ref mbk, .int (nI ac), .ref mke, .ref mik, .int (nI cr), .ref mrw, .ref mrd, .long sd, .ref mtr, .ref mwo, .ref mnx, .int jr])), (mtx, .inl (cI, 64, .inl bf)), (q1, .inl (cI, 36, .inl (zpu te b7 (zpd bf pl) k)))] ∧ va_S A sS.heap H locs ∧ lv_has ls 8 [(4, .int (nI k)), (3, .int (nI (zlf bf pl k))), (0, .ref M), (1, .ref q1), (2, .int (nI b7))] ∧ (zcq (zoT bf len pl) k = k) ∧ (pl + k ≤ len)) (4) (lo := 0) (by omega) ⟨hP, hD, hS, hl, (by first | rfl | assumption), (by first | rfl | assumption)⟩ (fun k hi_k ih_1 H locs ls hI => ?_)
  obtain ⟨hP, hD, hS, hl, hv6_0, hv6_1⟩ := hI
  have hv6_0 : zcq (zoT bf len pl) k = k := hv6_0
  have hv6_1 : pl + k ≤ len := hv6_1
  have hP : va_P D vwCl [(M, .inr (9, [.int th, .ref mtx, .int (nI len), .int (nI (pl + k)), .int rt, .int fr, .int pr, .ref mod_, .int (nI n), .ref mne, .ref mro, .int (nI m), .int rrt, .int rfr, .int rpr, .ref mrod, .int (nI rn9), .ref mrne, .ref mrro, .int (nI rm9), .ref mrp, .ref mpg, .ref mbk, .int (nI ac), .ref mke, .ref mik, .int (nI cr), .ref mrw, .ref mrd, .long sd, .ref mtr, .ref mwo, .ref mnx, .int jr])), (mtx, .inl (cI, 64, .inl bf)), (q1, .inl (cI, 36, .inl (zpu te b7 (zpd bf pl) k)))] H := hP
  have hD : va_D A [(M, .inr (9, [.int th, .ref mtx, .int (nI len), .int (nI (pl + k)), .int rt, .int fr, .int pr, .ref mod_, .int (nI n), .ref mne, .ref mro, .int (nI m), .int rrt, .int rfr, .int rpr, .ref mrod, .int (nI rn9), .ref mrne, .ref mrro, .int (nI rm9), .ref mrp, .ref mpg, .ref mbk, .int (nI ac), .ref mke, .ref mik, .int (nI cr), .ref mrw, .ref mrd, .long sd, .ref mtr, .ref mwo, .ref mnx, .int jr])), (mtx, .inl (cI, 64, .inl bf)), (q1, .inl (cI, 36, .inl (zpu te b7 (zpd bf pl) k)))] := hD
  have hl : lv_has ls 8 [(4, .int (nI k)), (3, .int (nI (zlf bf pl k))), (0, .ref M), (1, .ref q1), (2, .int (nI b7))] := hl
  have hbb := zlf_b (bf := bf) (len := len) (s := pl) k (by omega) (fun i hi => (zcq_all hv6_0 i hi).1)
  refine lv_iload hx hb dX9_readTen_6 (lv_at hl 0 rfl) ?_
  refine lv_iconst (v := nI 4) hx hb dX9_readTen_8 (by decide) ?_
  refine lv_icmp_ge (tgt := 86) hx hb dX9_readTen_9 (by decide) (fun c_5 => ?_) (fun c_5 => ?_)
  · have c_5 := zle (i := 4) (j := k) (by decide) (by omega) c_5
    have hE_ : 4 = k := by omega
    subst hE_
    have h44 := hv6_0
    refine lv_iconst (v := nI 1) hx hb dX9_readTen_86 (by decide) ?_
    have e_6 : nI (pl + 4) = nI (pl + zcq (zoT bf len pl) 4) := by first | (rw [if_neg hst.2]; rfl) | (rw [if_pos h44]; rfl) | (rw [h44]; done)
    have hP : va_P D vwCl [(M, .inr (9, [.int th, .ref mtx, .int (nI len), .int (nI (pl + zcq (zoT bf len pl) 4)), .int rt, .int fr, .int pr, .ref mod_, .int (nI n), .ref mne, .ref mro, .int (nI m), .int rrt, .int rfr, .int rpr, .ref mrod, .int (nI rn9), .ref mrne, .ref mrro, .int (nI rm9), .ref mrp, .ref mpg, .ref mbk, .int (nI ac), .ref mke, .ref mik, .int (nI cr), .ref mrw, .ref mrd, .long sd, .ref mtr, .ref mwo, .ref mnx, .int jr])), (mtx, .inl (cI, 64, .inl bf)), (q1, .inl (cI, 36, .inl (zpu te b7 (zpd bf pl) 4)))] H := Eq.subst (motive := fun zz_ => va_P D vwCl [(M, .inr (9, [.int th, .ref mtx, .int (nI len), .int zz_, .int rt, .int fr, .int pr, .ref mod_, .int (nI n), .ref mne, .ref mro, .int (nI m), .int rrt, .int rfr, .int rpr, .ref mrod, .int (nI rn9), .ref mrne, .ref mrro, .int (nI rm9), .ref mrp, .ref mpg, .ref mbk, .int (nI ac), .ref mke, .ref mik, .int (nI cr), .ref mrw, .ref mrd, .long sd, .ref mtr, .ref mwo, .ref mnx, .int jr])), (mtx, .inl (cI, 64, .inl bf)), (q1, .inl (cI, 36, .inl (zpu te b7 (zpd bf pl) 4)))] H) e_6 hP
    have hD : va_D A [(M, .inr (9, [.int th, .ref mtx, .int (nI len), .int (nI (pl + zcq (zoT bf len pl) 4)), .int rt, .int fr, .int pr, .ref mod_, .int (nI n), .ref mne, .ref mro, .int (nI m), .int rrt, .int rfr, .int rpr, .ref mrod, .int (nI rn9), .ref mrne, .ref mrro, .int (nI rm9), .ref mrp, .ref mpg, .ref mbk, .int (nI ac), .ref mke, .ref mik, .int (nI cr), .ref mrw, .ref mrd, .long sd, .ref mtr, .ref mwo, .ref mnx, .int jr])), (mtx, .inl (cI, 64, .inl bf)), (q1, .inl (cI, 36, .inl (zpu te b7 (zpd bf pl) 4)))] := zD_of hD rfl
    exact z_zret Z (zpu te b7 (zpd bf pl) 4) (by decide) ⟨(by first | (rw [if_neg hst.2]; rfl) | (rw [if_pos h44]; rfl) | (rw [h44]; done)), (by first | exact fun z => absurd z hst.2 | exact fun _ => rfl)⟩ hP hS dX9_readTen_87
  · have c_5 := znle (i := 4) (j := k) (by decide) (by omega) c_5
    refine lv_bipush (v := nI 9) hx hb dX9_readTen_12 (by decide) ?_
    refine lv_iconst (v := nI 3) hx hb dX9_readTen_14 (by decide) ?_
    refine lv_iload hx hb dX9_readTen_15 (lv_at hl 0 rfl) ?_
    refine lv_isub hx hb dX9_readTen_17 ?_
    refine z_top (y := nI (3 - k)) (z_sub' (by omega)) ?_
    refine lv_imul hx hb dX9_readTen_18 ?_
    refine z_top (y := nI (9 * (3 - k))) (z_mul _ _) ?_
    refine lv_istore (lv' := [(5, .int (nI (9 * (3 - k)))), (4, .int (nI k)), (3, .int (nI (zlf bf pl k))), (0, .ref M), (1, .ref q1), (2, .int (nI b7))]) hx hb dX9_readTen_19 hl (by decide) rfl (fun ls hl => ?_)
    refine z_cut (fun H locs ls => va_P D vwCl [(M, .inr (9, [.int th, .ref mtx, .int (nI len), .int (nI (pl + k)), .int rt, .int fr, .int pr, .ref mod_, .int (nI n), .ref mne, .ref mro, .int (nI m), .int rrt, .int rfr, .int rpr, .ref mrod, .int (nI rn9), .ref mrne, .ref mrro, .int (nI rm9), .ref mrp, .ref mpg, .ref mbk, .int (nI ac), .ref mke, .ref mik, .int (nI cr), .ref mrw, .ref mrd, .long sd, .ref mtr, .ref mwo, .ref mnx, .int jr])), (mtx, .inl (cI, 64, .inl bf)), (q1, .inl (cI, 36, .inl (zpu te b7 (zpd bf pl) k)))] H ∧ va_D A [(M, .inr (9, [.int th, .ref mtx, .int (nI len), .int (nI (pl + k)), .int rt, .int fr, .int pr, .ref mod_, .int (nI n), .ref mne, .ref mro, .int (nI m), .int rrt, .int rfr, .int rpr, .ref mrod, .int (nI rn9), .ref mrne, .ref mrro, .int (nI rm9), .ref mrp, .ref mpg, .ref mbk, .int (nI ac), .ref mke, .ref mik, .int (nI cr), .ref mrw, .ref mrd, .long sd, .ref mtr, .ref mwo, .ref mnx, .int jr])), (mtx, .inl (cI, 64, .inl bf)), (q1, .inl (cI, 36, .inl (zpu te b7 (zpd bf pl) k)))] ∧ va_S A sS.heap H locs ∧ lv_has ls 8 [(5, .int (nI (9 * (3 - k)))), (4, .int (nI k)), (3, .int (nI (zlf bf pl k))), (0, .ref M), (1, .ref q1), (2, .int (nI b7))]) 36 [.int (nI (zlf bf pl k - 9 * (3 - k)))] (fun H locs ls hI => ?_) (fun k_7 => ?_)
    · obtain ⟨hP, hD, hS, hl⟩ := hI
      refine lv_istore (lv' := [(6, .int (nI (zlf bf pl k - 9 * (3 - k)))), (5, .int (nI (9 * (3 - k)))), (4, .int (nI k)), (3, .int (nI (zlf bf pl k))), (0, .ref M), (1, .ref q1), (2, .int (nI b7))]) hx hb dX9_readTen_36 hl (by decide) rfl (fun ls hl => ?_)
      refine lv_aload_n hx hb dX9_readTen_38 rfl (lv_at hl 4 rfl) ?_
      refine lv_iload hx hb dX9_readTen_39 (lv_at hl 0 rfl) ?_
      refine z_cut (fun H locs ls => va_P D vwCl [(M, .inr (9, [.int th, .ref mtx, .int (nI len), .int (nI (pl + k)), .int rt, .int fr, .int pr, .ref mod_, .int (nI n), .ref mne, .ref mro, .int (nI m), .int rrt, .int rfr, .int rpr, .ref mrod, .int (nI rn9), .ref mrne, .ref mrro, .int (nI rm9), .ref mrp, .ref mpg, .ref mbk, .int (nI ac), .ref mke, .ref mik, .int (nI cr), .ref mrw, .ref mrd, .long sd, .ref mtr, .ref mwo, .ref mnx, .int jr])), (mtx, .inl (cI, 64, .inl bf)), (q1, .inl (cI, 36, .inl (zpu te b7 (zpd bf pl) k)))] H ∧ va_D A [(M, .inr (9, [.int th, .ref mtx, .int (nI len), .int (nI (pl + k)), .int rt, .int fr, .int pr, .ref mod_, .int (nI n), .ref mne, .ref mro, .int (nI m), .int rrt, .int rfr, .int rpr, .ref mrod, .int (nI rn9), .ref mrne, .ref mrro, .int (nI rm9), .ref mrp, .ref mpg, .ref mbk, .int (nI ac), .ref mke, .ref mik, .int (nI cr), .ref mrw, .ref mrd, .long sd, .ref mtr, .ref mwo, .ref mnx, .int jr])), (mtx, .inl (cI, 64, .inl bf)), (q1, .inl (cI, 36, .inl (zpu te b7 (zpd bf pl) k)))] ∧ va_S A sS.heap H locs ∧ lv_has ls 8 [(6, .int (nI (zlf bf pl k - 9 * (3 - k)))), (5, .int (nI (9 * (3 - k)))), (4, .int (nI k)), (3, .int (nI (zlf bf pl k))), (0, .ref M), (1, .ref q1), (2, .int (nI b7))]) 53 [.int (nI (if zlf bf pl k < 9 then zlf bf pl k else 9)), .int (nI (zlf bf pl k - 9 * (3 - k))), .ref M] (fun H locs ls hI => ?_) (fun k_8 => ?_)
      · obtain ⟨hP, hD, hS, hl⟩ := hI
        refine z_callVi (As := [.int (nI (zlf bf pl k - 9 * (3 - k))), .int (nI (if zlf bf pl k < 9 then zlf bf pl k else 9))]) (rest := []) (ci := 9) (k0 := 0) Z hP hD hS hl.1 (zc_X9_figure l D cI cZ M th mtx len (pl + k) rt fr pr mod_ n mne mro m rrt rfr rpr mrod rn9 mrne mrro rm9 mrp mpg mbk ac mke mik cr mrw mrd sd mtr mwo mnx jr bf (zlf bf pl k - 9 * (3 - k)) (if zlf bf pl k < 9 then zlf bf pl k else 9) (by omega) (by omega) (by omega) (by split <;> omega)) zm764 zm765 zm13 zm39 zm766 ⟨rfl, zd_X9_figure⟩ ⟨Nat.le_of_ble_eq_true rfl, Nat.le_of_ble_eq_true rfl⟩ ⟨Nat.zero_le _, Nat.zero_le _⟩ [0, 1] rfl (by decide) rfl rfl rfl (fun _ => rfl) rfl (Nat.le_of_ble_eq_true rfl) rfl dX9_readTen_53 (fun r_9 u H locs h_10 hP hD hS => ?_)
        have hP : va_P D vwCl [(M, .inr (9, [.int th, .ref mtx, .int (nI len), .int (nI (if zoR bf len (pl + k) (zlf bf pl k - 9 * (3 - k)) (if zlf bf pl k < 9 then zlf bf pl k else 9) = true then (pl + k) + 1 else (pl + k))), .int rt, .int fr, .int pr, .ref mod_, .int (nI n), .ref mne, .ref mro, .int (nI m), .int rrt, .int rfr, .int rpr, .ref mrod, .int (nI rn9), .ref mrne, .ref mrro, .int (nI rm9), .ref mrp, .ref mpg, .ref mbk, .int (nI ac), .ref mke, .ref mik, .int (nI cr), .ref mrw, .ref mrd, .long sd, .ref mtr, .ref mwo, .ref mnx, .int jr])), (mtx, .inl (cI, 64, .inl bf)), (q1, .inl (cI, 36, .inl (zpu te b7 (zpd bf pl) k)))] H := hP
        have hD : va_D A [(M, .inr (9, [.int th, .ref mtx, .int (nI len), .int (nI (if zoR bf len (pl + k) (zlf bf pl k - 9 * (3 - k)) (if zlf bf pl k < 9 then zlf bf pl k else 9) = true then (pl + k) + 1 else (pl + k))), .int rt, .int fr, .int pr, .ref mod_, .int (nI n), .ref mne, .ref mro, .int (nI m), .int rrt, .int rfr, .int rpr, .ref mrod, .int (nI rn9), .ref mrne, .ref mrro, .int (nI rm9), .ref mrp, .ref mpg, .ref mbk, .int (nI ac), .ref mke, .ref mik, .int (nI cr), .ref mrw, .ref mrd, .long sd, .ref mtr, .ref mwo, .ref mnx, .int jr])), (mtx, .inl (cI, 64, .inl bf)), (q1, .inl (cI, 36, .inl (zpu te b7 (zpd bf pl) k)))] := hD
        have h_10 : r_9 = if zoR bf len (pl + k) (zlf bf pl k - 9 * (3 - k)) (if zlf bf pl k < 9 then zlf bf pl k else 9) = true then nI (zdg bf (pl + k)) else -9 := h_10
        subst h_10
        refine lv_istore (lv' := [(7, .int (if zoR bf len (pl + k) (zlf bf pl k - 9 * (3 - k)) (if zlf bf pl k < 9 then zlf bf pl k else 9) = true then nI (zdg bf (pl + k)) else -9)), (6, .int (nI (zlf bf pl k - 9 * (3 - k)))), (5, .int (nI (9 * (3 - k)))), (4, .int (nI k)), (3, .int (nI (zlf bf pl k))), (0, .ref M), (1, .ref q1), (2, .int (nI b7))]) hx hb dX9_readTen_56 hl (by decide) rfl (fun ls hl => ?_)
        refine lv_iload hx hb dX9_readTen_58 (lv_at hl 0 rfl) ?_
        refine lv_bipush (v := -9) hx hb dX9_readTen_60 (by decide) ?_
        refine lv_icmp_ne (tgt := 67) hx hb dX9_readTen_62 (by decide) (fun c_11 => ?_) (fun c_11 => ?_)
        · have c_11 : ¬ ((if zoR bf len (pl + k) (zlf bf pl k - 9 * (3 - k)) (if zlf bf pl k < 9 then zlf bf pl k else 9) = true then nI (zdg bf (pl + k)) else -9) = (-9 : Int32)) := c_11
          have hok : zoT bf len pl k = true := zif9_y c_11
          have hd := zoT_d hok hbb.1 hbb.2 (by omega)
          have hE : (if zoR bf len (pl + k) (zlf bf pl k - 9 * (3 - k)) (if zlf bf pl k < 9 then zlf bf pl k else 9) = true then nI (zdg bf (pl + k)) else -9 : Int32) = (nI (zdg bf (pl + k))) := if_pos hok
          have hl : lv_has ls 8 [(7, .int (nI (zdg bf (pl + k)))), (6, .int (nI (zlf bf pl k - 9 * (3 - k)))), (5, .int (nI (9 * (3 - k)))), (4, .int (nI k)), (3, .int (nI (zlf bf pl k))), (0, .ref M), (1, .ref q1), (2, .int (nI b7))] := Eq.subst (motive := fun zz_ => lv_has ls 8 [(7, .int zz_), (6, .int (nI (zlf bf pl k - 9 * (3 - k)))), (5, .int (nI (9 * (3 - k)))), (4, .int (nI k)), (3, .int (nI (zlf bf pl k))), (0, .ref M), (1, .ref q1), (2, .int (nI b7))]) hE hl
          have e_12 : nI (if zoR bf len (pl + k) (zlf bf pl k - 9 * (3 - k)) (if zlf bf pl k < 9 then zlf bf pl k else 9) = true then (pl + k) + 1 else (pl + k)) = nI (pl + k + 1) := by rw [show nI (if zoR bf len (pl + k) (zlf bf pl k - 9 * (3 - k)) (if zlf bf pl k < 9 then zlf bf pl k else 9) = true then pl + k + 1 else pl + k) = nI (pl + k + 1) from congrArg nI (if_pos hok)]
          have hP : va_P D vwCl [(M, .inr (9, [.int th, .ref mtx, .int (nI len), .int (nI (pl + k + 1)), .int rt, .int fr, .int pr, .ref mod_, .int (nI n), .ref mne, .ref mro, .int (nI m), .int rrt, .int rfr, .int rpr, .ref mrod, .int (nI rn9), .ref mrne, .ref mrro, .int (nI rm9), .ref mrp, .ref mpg, .ref mbk, .int (nI ac), .ref mke, .ref mik, .int (nI cr), .ref mrw, .ref mrd, .long sd, .ref mtr, .ref mwo, .ref mnx, .int jr])), (mtx, .inl (cI, 64, .inl bf)), (q1, .inl (cI, 36, .inl (zpu te b7 (zpd bf pl) k)))] H := Eq.subst (motive := fun zz_ => va_P D vwCl [(M, .inr (9, [.int th, .ref mtx, .int (nI len), .int zz_, .int rt, .int fr, .int pr, .ref mod_, .int (nI n), .ref mne, .ref mro, .int (nI m), .int rrt, .int rfr, .int rpr, .ref mrod, .int (nI rn9), .ref mrne, .ref mrro, .int (nI rm9), .ref mrp, .ref mpg, .ref mbk, .int (nI ac), .ref mke, .ref mik, .int (nI cr), .ref mrw, .ref mrd, .long sd, .ref mtr, .ref mwo, .ref mnx, .int jr])), (mtx, .inl (cI, 64, .inl bf)), (q1, .inl (cI, 36, .inl (zpu te b7 (zpd bf pl) k)))] H) e_12 hP
          have hD : va_D A [(M, .inr (9, [.int th, .ref mtx, .int (nI len), .int (nI (pl + k + 1)), .int rt, .int fr, .int pr, .ref mod_, .int (nI n), .ref mne, .ref mro, .int (nI m), .int rrt, .int rfr, .int rpr, .ref mrod, .int (nI rn9), .ref mrne, .ref mrro, .int (nI rm9), .ref mrp, .ref mpg, .ref mbk, .int (nI ac), .ref mke, .ref mik, .int (nI cr), .ref mrw, .ref mrd, .long sd, .ref mtr, .ref mwo, .ref mnx, .int jr])), (mtx, .inl (cI, 64, .inl bf)), (q1, .inl (cI, 36, .inl (zpu te b7 (zpd bf pl) k)))] := zD_of hD rfl
          refine lv_aload_n hx hb dX9_readTen_67 rfl (lv_at hl 6 rfl) ?_
          refine lv_iload_n hx hb dX9_readTen_68 rfl (lv_at hl 7 rfl) ?_
          refine lv_iload hx hb dX9_readTen_69 (lv_at hl 3 rfl) ?_
          refine lv_iadd hx hb dX9_readTen_71 ?_
          refine z_top (y := nI (b7 + k)) (z_add _ _) ?_
          refine lv_iload hx hb dX9_readTen_72 (lv_at hl 0 rfl) ?_
          refine z_iast (n := 36) (f := zpu te b7 (zpd bf pl) k) (j := b7 + k) (x := nI (zdg bf (pl + k))) Z hP hD hS 2 rfl (by omega) (by decide) dX9_readTen_74 (fun H locs hP hD hS => ?_)
          have hP : va_P D vwCl [(M, .inr (9, [.int th, .ref mtx, .int (nI len), .int (nI (pl + k + 1)), .int rt, .int fr, .int pr, .ref mod_, .int (nI n), .ref mne, .ref mro, .int (nI m), .int rrt, .int rfr, .int rpr, .ref mrod, .int (nI rn9), .ref mrne, .ref mrro, .int (nI rm9), .ref mrp, .ref mpg, .ref mbk, .int (nI ac), .ref mke, .ref mik, .int (nI cr), .ref mrw, .ref mrd, .long sd, .ref mtr, .ref mwo, .ref mnx, .int jr])), (mtx, .inl (cI, 64, .inl bf)), (q1, .inl (cI, 36, .inl (upd (zpu te b7 (zpd bf pl) k) (b7 + k) (nI (zdg bf (pl + k))))))] H := hP
          have hD : va_D A [(M, .inr (9, [.int th, .ref mtx, .int (nI len), .int (nI (pl + k + 1)), .int rt, .int fr, .int pr, .ref mod_, .int (nI n), .ref mne, .ref mro, .int (nI m), .int rrt, .int rfr, .int rpr, .ref mrod, .int (nI rn9), .ref mrne, .ref mrro, .int (nI rm9), .ref mrp, .ref mpg, .ref mbk, .int (nI ac), .ref mke, .ref mik, .int (nI cr), .ref mrw, .ref mrd, .long sd, .ref mtr, .ref mwo, .ref mnx, .int jr])), (mtx, .inl (cI, 64, .inl bf)), (q1, .inl (cI, 36, .inl (upd (zpu te b7 (zpd bf pl) k) (b7 + k) (nI (zdg bf (pl + k))))))] := hD
          refine lv_iload_n hx hb dX9_readTen_75 rfl (lv_at hl 4 rfl) ?_
          refine lv_iload hx hb dX9_readTen_76 (lv_at hl 0 rfl) ?_
          refine lv_isub hx hb dX9_readTen_78 ?_
          refine z_top (y := nI ((zlf bf pl k) - (zdg bf (pl + k)))) (z_sub' (by omega)) ?_
          refine lv_istore_n (lv' := [(3, .int (nI ((zlf bf pl k) - (zdg bf (pl + k))))), (7, .int (nI (zdg bf (pl + k)))), (6, .int (nI (zlf bf pl k - 9 * (3 - k)))), (5, .int (nI (9 * (3 - k)))), (4, .int (nI k)), (0, .ref M), (1, .ref q1), (2, .int (nI b7))]) hx hb dX9_readTen_79 rfl hl (by decide) rfl (fun ls hl => ?_)
          refine lv_iinc (v := nI (k + 1)) (lv' := [(4, .int (nI (k + 1))), (3, .int (nI ((zlf bf pl k) - (zdg bf (pl + k))))), (7, .int (nI (zdg bf (pl + k)))), (6, .int (nI (zlf bf pl k - 9 * (3 - k)))), (5, .int (nI (9 * (3 - k)))), (0, .ref M), (1, .ref q1), (2, .int (nI b7))]) hx hb dX9_readTen_80 hl (k := 4) rfl (z_inc _ 1) (by decide) rfl (fun ls hl => ?_)
          refine lv_goto (tgt := 6) hx hb dX9_readTen_83 (by decide) ?_
          have e_13 : nI (pl + k + 1) = nI (pl + (k + 1)) := by rfl
          have hP : va_P D vwCl [(M, .inr (9, [.int th, .ref mtx, .int (nI len), .int (nI (pl + (k + 1))), .int rt, .int fr, .int pr, .ref mod_, .int (nI n), .ref mne, .ref mro, .int (nI m), .int rrt, .int rfr, .int rpr, .ref mrod, .int (nI rn9), .ref mrne, .ref mrro, .int (nI rm9), .ref mrp, .ref mpg, .ref mbk, .int (nI ac), .ref mke, .ref mik, .int (nI cr), .ref mrw, .ref mrd, .long sd, .ref mtr, .ref mwo, .ref mnx, .int jr])), (mtx, .inl (cI, 64, .inl bf)), (q1, .inl (cI, 36, .inl (upd (zpu te b7 (zpd bf pl) k) (b7 + k) (nI (zdg bf (pl + k))))))] H := Eq.subst (motive := fun zz_ => va_P D vwCl [(M, .inr (9, [.int th, .ref mtx, .int (nI len), .int zz_, .int rt, .int fr, .int pr, .ref mod_, .int (nI n), .ref mne, .ref mro, .int (nI m), .int rrt, .int rfr, .int rpr, .ref mrod, .int (nI rn9), .ref mrne, .ref mrro, .int (nI rm9), .ref mrp, .ref mpg, .ref mbk, .int (nI ac), .ref mke, .ref mik, .int (nI cr), .ref mrw, .ref mrd, .long sd, .ref mtr, .ref mwo, .ref mnx, .int jr])), (mtx, .inl (cI, 64, .inl bf)), (q1, .inl (cI, 36, .inl (upd (zpu te b7 (zpd bf pl) k) (b7 + k) (nI (zdg bf (pl + k))))))] H) e_13 hP
          have e_14 : upd (zpu te b7 (zpd bf pl) k) (b7 + k) (nI (zdg bf (pl + k))) = zpu te b7 (zpd bf pl) (k + 1) := by rfl
          have hP : va_P D vwCl [(M, .inr (9, [.int th, .ref mtx, .int (nI len), .int (nI (pl + (k + 1))), .int rt, .int fr, .int pr, .ref mod_, .int (nI n), .ref mne, .ref mro, .int (nI m), .int rrt, .int rfr, .int rpr, .ref mrod, .int (nI rn9), .ref mrne, .ref mrro, .int (nI rm9), .ref mrp, .ref mpg, .ref mbk, .int (nI ac), .ref mke, .ref mik, .int (nI cr), .ref mrw, .ref mrd, .long sd, .ref mtr, .ref mwo, .ref mnx, .int jr])), (mtx, .inl (cI, 64, .inl bf)), (q1, .inl (cI, 36, .inl (zpu te b7 (zpd bf pl) (k + 1))))] H := Eq.subst (motive := fun zz_ => va_P D vwCl [(M, .inr (9, [.int th, .ref mtx, .int (nI len), .int (nI (pl + (k + 1))), .int rt, .int fr, .int pr, .ref mod_, .int (nI n), .ref mne, .ref mro, .int (nI m), .int rrt, .int rfr, .int rpr, .ref mrod, .int (nI rn9), .ref mrne, .ref mrro, .int (nI rm9), .ref mrp, .ref mpg, .ref mbk, .int (nI ac), .ref mke, .ref mik, .int (nI cr), .ref mrw, .ref mrd, .long sd, .ref mtr, .ref mwo, .ref mnx, .int jr])), (mtx, .inl (cI, 64, .inl bf)), (q1, .inl (cI, 36, .inl zz_))] H) e_14 hP
          have hD : va_D A [(M, .inr (9, [.int th, .ref mtx, .int (nI len), .int (nI (pl + (k + 1))), .int rt, .int fr, .int pr, .ref mod_, .int (nI n), .ref mne, .ref mro, .int (nI m), .int rrt, .int rfr, .int rpr, .ref mrod, .int (nI rn9), .ref mrne, .ref mrro, .int (nI rm9), .ref mrp, .ref mpg, .ref mbk, .int (nI ac), .ref mke, .ref mik, .int (nI cr), .ref mrw, .ref mrd, .long sd, .ref mtr, .ref mwo, .ref mnx, .int jr])), (mtx, .inl (cI, 64, .inl bf)), (q1, .inl (cI, 36, .inl (zpu te b7 (zpd bf pl) (k + 1))))] := zD_of hD rfl
          have hl : lv_has ls 8 [(4, .int (nI (k + 1))), (3, .int (nI ((zlf bf pl k) - (zdg bf (pl + k))))), (0, .ref M), (1, .ref q1), (2, .int (nI b7))] := lv_sub hl [0, 1, 5, 6, 7] rfl
          have e_15 : nI ((zlf bf pl k) - (zdg bf (pl + k))) = nI (zlf bf pl (k + 1)) := by rfl
          have hl : lv_has ls 8 [(4, .int (nI (k + 1))), (3, .int (nI (zlf bf pl (k + 1)))), (0, .ref M), (1, .ref q1), (2, .int (nI b7))] := Eq.subst (motive := fun zz_ => lv_has ls 8 [(4, .int (nI (k + 1))), (3, .int zz_), (0, .ref M), (1, .ref q1), (2, .int (nI b7))]) e_15 hl
          exact ih_1 _ _ _ (by omega) ⟨hP, hD, hS, hl, (by first | exact zcq_y hv6_0 hok | omega), (by first | exact zcq_y hv6_0 hok | omega)⟩
        · have c_11 : (if zoR bf len (pl + k) (zlf bf pl k - 9 * (3 - k)) (if zlf bf pl k < 9 then zlf bf pl k else 9) = true then nI (zdg bf (pl + k)) else -9) = (-9 : Int32) := c_11
          have hno : ¬ zoT bf len pl k = true := zif9_n (by omega) (by split <;> omega) c_11
          have hst := zcqT_stop hv6_0 hno (by omega)
          have e_16 : nI (if zoR bf len (pl + k) (zlf bf pl k - 9 * (3 - k)) (if zlf bf pl k < 9 then zlf bf pl k else 9) = true then (pl + k) + 1 else (pl + k)) = nI (pl + zcq (zoT bf len pl) 4) := by rw [show nI (if zoR bf len (pl + k) (zlf bf pl k - 9 * (3 - k)) (if zlf bf pl k < 9 then zlf bf pl k else 9) = true then pl + k + 1 else pl + k) = nI (pl + k) from congrArg nI (if_neg hno), hst.1]
          have hP : va_P D vwCl [(M, .inr (9, [.int th, .ref mtx, .int (nI len), .int (nI (pl + zcq (zoT bf len pl) 4)), .int rt, .int fr, .int pr, .ref mod_, .int (nI n), .ref mne, .ref mro, .int (nI m), .int rrt, .int rfr, .int rpr, .ref mrod, .int (nI rn9), .ref mrne, .ref mrro, .int (nI rm9), .ref mrp, .ref mpg, .ref mbk, .int (nI ac), .ref mke, .ref mik, .int (nI cr), .ref mrw, .ref mrd, .long sd, .ref mtr, .ref mwo, .ref mnx, .int jr])), (mtx, .inl (cI, 64, .inl bf)), (q1, .inl (cI, 36, .inl (zpu te b7 (zpd bf pl) k)))] H := Eq.subst (motive := fun zz_ => va_P D vwCl [(M, .inr (9, [.int th, .ref mtx, .int (nI len), .int zz_, .int rt, .int fr, .int pr, .ref mod_, .int (nI n), .ref mne, .ref mro, .int (nI m), .int rrt, .int rfr, .int rpr, .ref mrod, .int (nI rn9), .ref mrne, .ref mrro, .int (nI rm9), .ref mrp, .ref mpg, .ref mbk, .int (nI ac), .ref mke, .ref mik, .int (nI cr), .ref mrw, .ref mrd, .long sd, .ref mtr, .ref mwo, .ref mnx, .int jr])), (mtx, .inl (cI, 64, .inl bf)), (q1, .inl (cI, 36, .inl (zpu te b7 (zpd bf pl) k)))] H) e_16 hP
          have hD : va_D A [(M, .inr (9, [.int th, .ref mtx, .int (nI len), .int (nI (pl + zcq (zoT bf len pl) 4)), .int rt, .int fr, .int pr, .ref mod_, .int (nI n), .ref mne, .ref mro, .int (nI m), .int rrt, .int rfr, .int rpr, .ref mrod, .int (nI rn9), .ref mrne, .ref mrro, .int (nI rm9), .ref mrp, .ref mpg, .ref mbk, .int (nI ac), .ref mke, .ref mik, .int (nI cr), .ref mrw, .ref mrd, .long sd, .ref mtr, .ref mwo, .ref mnx, .int jr])), (mtx, .inl (cI, 64, .inl bf)), (q1, .inl (cI, 36, .inl (zpu te b7 (zpd bf pl) k)))] := zD_of hD rfl
          refine lv_iconst (v := nI 0) hx hb dX9_readTen_65 (by decide) ?_
          exact z_zret Z (zpu te b7 (zpd bf pl) k) (by decide) ⟨(by first | (rw [if_neg hst.2]; rfl) | (rw [if_pos h44]; rfl) | (rw [h44]; done)), (by first | exact fun z => absurd z hst.2 | exact fun _ => rfl)⟩ hP hS dX9_readTen_66
      · skip
        refine lv_iload_n hx hb dX9_readTen_41 rfl (lv_at hl 3 rfl) ?_
        refine lv_bipush (v := nI 9) hx hb dX9_readTen_42 (by decide) ?_
        refine lv_icmp_ge (tgt := 51) hx hb dX9_readTen_44 (by decide) (fun c_17 => ?_) (fun c_17 => ?_)
        · have c_17 := zle (i := 9) (j := zlf bf pl k) (by decide) (by omega) c_17
          refine lv_bipush (v := nI 9) hx hb dX9_readTen_51 (by decide) ?_
          have hl : lv_has ls 8 [(6, .int (nI (zlf bf pl k - 9 * (3 - k)))), (5, .int (nI (9 * (3 - k)))), (4, .int (nI k)), (3, .int (nI (zlf bf pl k))), (0, .ref M), (1, .ref q1), (2, .int (nI b7))] := lv_sub hl [0, 1, 2, 3, 4, 5, 6] rfl
          refine z_top (y := nI (if zlf bf pl k < 9 then zlf bf pl k else 9)) (by first | exact congrArg nI (if_pos (by omega)).symm | exact congrArg nI (if_neg (by omega)).symm) ?_
          exact k_8 _ _ _ ⟨hP, hD, hS, hl⟩
        · have c_17 := znle (i := 9) (j := zlf bf pl k) (by decide) (by omega) c_17
          refine lv_iload_n hx hb dX9_readTen_47 rfl (lv_at hl 3 rfl) ?_
          refine lv_goto (tgt := 53) hx hb dX9_readTen_48 (by decide) ?_
          have hl : lv_has ls 8 [(6, .int (nI (zlf bf pl k - 9 * (3 - k)))), (5, .int (nI (9 * (3 - k)))), (4, .int (nI k)), (3, .int (nI (zlf bf pl k))), (0, .ref M), (1, .ref q1), (2, .int (nI b7))] := lv_sub hl [0, 1, 2, 3, 4, 5, 6] rfl
          refine z_top (y := nI (if zlf bf pl k < 9 then zlf bf pl k else 9)) (by first | exact congrArg nI (if_pos (by omega)).symm | exact congrArg nI (if_neg (by omega)).symm) ?_
          exact k_8 _ _ _ ⟨hP, hD, hS, hl⟩
    · skip
      refine lv_iload_n hx hb dX9_readTen_21 rfl (lv_at hl 2 rfl) ?_
      refine lv_iload hx hb dX9_readTen_22 (lv_at hl 0 rfl) ?_
      refine lv_isub hx hb dX9_readTen_24 ?_
      refine lv_if_ge (tgt := 32) hx hb dX9_readTen_25 (by decide) (fun c_18 => ?_) (fun c_18 => ?_)
      · have c_18 : 0 ≤ ((nI (zlf bf pl k)) - (nI (9 * (3 - k)))) := c_18
        refine lv_iload_n hx hb dX9_readTen_32 rfl (lv_at hl 2 rfl) ?_
        refine lv_iload hx hb dX9_readTen_33 (lv_at hl 0 rfl) ?_
        refine lv_isub hx hb dX9_readTen_35 ?_
        have hl : lv_has ls 8 [(5, .int (nI (9 * (3 - k)))), (4, .int (nI k)), (3, .int (nI (zlf bf pl k))), (0, .ref M), (1, .ref q1), (2, .int (nI b7))] := lv_sub hl [0, 1, 2, 3, 4, 5] rfl
        refine z_top (y := nI (zlf bf pl k - 9 * (3 - k))) (by first | exact zsub_y (by omega) (by omega) (by assumption) | exact zsub_n (by omega) (by omega) (by assumption)) ?_
        exact k_7 _ _ _ ⟨hP, hD, hS, hl⟩
      · have c_18 : ¬ (0 ≤ ((nI (zlf bf pl k)) - (nI (9 * (3 - k))))) := c_18
        refine lv_iconst (v := nI 0) hx hb dX9_readTen_28 (by decide) ?_
        refine lv_goto (tgt := 36) hx hb dX9_readTen_29 (by decide) ?_
        have hl : lv_has ls 8 [(5, .int (nI (9 * (3 - k)))), (4, .int (nI k)), (3, .int (nI (zlf bf pl k))), (0, .ref M), (1, .ref q1), (2, .int (nI b7))] := lv_sub hl [0, 1, 2, 3, 4, 5] rfl
        refine z_top (y := nI (zlf bf pl k - 9 * (3 - k))) (by first | exact zsub_y (by omega) (by omega) (by assumption) | exact zsub_n (by omega) (by omega) (by assumption)) ?_
        exact k_7 _ _ _ ⟨hP, hD, hS, hl⟩

theorem dX9_openOf_0 : decode cX9_openOf 0 = .ok (.iconst 1, 1) := by decide +kernel
theorem dX9_openOf_1 : decode cX9_openOf 1 = .ok (.aload_n 0, 1) := by decide +kernel
theorem dX9_openOf_2 : decode cX9_openOf 2 = .ok (.getfield 87, 3) := by decide +kernel
theorem dX9_openOf_5 : decode cX9_openOf 5 = .ok (.ishl, 1) := by decide +kernel
theorem dX9_openOf_6 : decode cX9_openOf 6 = .ok (.iconst 1, 1) := by decide +kernel
theorem dX9_openOf_7 : decode cX9_openOf 7 = .ok (.isub, 1) := by decide +kernel
theorem dX9_openOf_8 : decode cX9_openOf 8 = .ok (.iconst 1, 1) := by decide +kernel
theorem dX9_openOf_9 : decode cX9_openOf 9 = .ok (.iload_n 1, 1) := by decide +kernel
theorem dX9_openOf_10 : decode cX9_openOf 10 = .ok (.ishl, 1) := by decide +kernel
theorem dX9_openOf_11 : decode cX9_openOf 11 = .ok (.iconst (-1), 1) := by decide +kernel
theorem dX9_openOf_12 : decode cX9_openOf 12 = .ok (.ixor, 1) := by decide +kernel
theorem dX9_openOf_13 : decode cX9_openOf 13 = .ok (.iand, 1) := by decide +kernel
theorem dX9_openOf_14 : decode cX9_openOf 14 = .ok (.aload_n 0, 1) := by decide +kernel
theorem dX9_openOf_15 : decode cX9_openOf 15 = .ok (.getfield 28, 3) := by decide +kernel
theorem dX9_openOf_18 : decode cX9_openOf 18 = .ok (.iload_n 1, 1) := by decide +kernel
theorem dX9_openOf_19 : decode cX9_openOf 19 = .ok (.iaload, 1) := by decide +kernel
theorem dX9_openOf_20 : decode cX9_openOf 20 = .ok (.iconst (-1), 1) := by decide +kernel
theorem dX9_openOf_21 : decode cX9_openOf 21 = .ok (.ixor, 1) := by decide +kernel
theorem dX9_openOf_22 : decode cX9_openOf 22 = .ok (.iand, 1) := by decide +kernel
theorem dX9_openOf_23 : decode cX9_openOf 23 = .ok (.ireturn, 1) := by decide +kernel
theorem zd_X9_openOf : yX9_openOf.cls ≠ "java/lang/invoke/MethodHandle" ∧ yX9_openOf.cls ≠ "java/lang/invoke/VarHandle" ∧ (parseMethodDescriptor yX9_openOf.desc).map (fun d => d.parameters.length) = some 1 := by decide +kernel
set_option maxHeartbeats 4000000 in
set_option maxRecDepth 100000 in
theorem zc_X9_openOf (l : Launch) (D : va_G) (cI cZ : ClassId) (M : Nat) (th : Int32) (mtx : Nat) (len : Nat) (pl : Nat) (rt : Int32) (fr : Int32) (pr : Int32) (mod_ : Nat) (n : Nat) (mne : Nat) (mro : Nat) (m : Nat) (rrt : Int32) (rfr : Int32) (rpr : Int32) (mrod : Nat) (rn9 : Nat) (mrne : Nat) (mrro : Nat) (rm9 : Nat) (mrp : Nat) (mpg : Nat) (mbk : Nat) (ac : Nat) (mke : Nat) (mik : Nat) (cr : Nat) (mrw : Nat) (mrd : Nat) (sd : Int64) (mtr : Nat) (mwo : Nat) (mnx : Nat) (jr : Int32) (md : Nat → Int32) (i : Nat) (hi : i < 5) (hrn : rn9 ≤ 5) : zI l yX9_openOf cX9_openOf 2 .int 0 0 D cI cZ [.ref M, .int (nI i)] [(M, .inr (9, [.int th, .ref mtx, .int (nI len), .int (nI pl), .int rt, .int fr, .int pr, .ref mod_, .int (nI n), .ref mne, .ref mro, .int (nI m), .int rrt, .int rfr, .int rpr, .ref mrod, .int (nI rn9), .ref mrne, .ref mrro, .int (nI rm9), .ref mrp, .ref mpg, .ref mbk, .int (nI ac), .ref mke, .ref mik, .int (nI cr), .ref mrw, .ref mrd, .long sd, .ref mtr, .ref mwo, .ref mnx, .int jr])), (mrro, .inl (cI, 5, .inl md))] (fun (r : Int32) (u : Unit) => r = zren rn9 md i) (fun (u : Unit) => [(M, .inr (9, [.int th, .ref mtx, .int (nI len), .int (nI pl), .int rt, .int fr, .int pr, .ref mod_, .int (nI n), .ref mne, .ref mro, .int (nI m), .int rrt, .int rfr, .int rpr, .ref mrod, .int (nI rn9), .ref mrne, .ref mrro, .int (nI rm9), .ref mrp, .ref mpg, .ref mbk, .int (nI ac), .ref mke, .ref mik, .int (nI cr), .ref mrw, .ref mrd, .long sd, .ref mtr, .ref mwo, .ref mnx, .int jr])), (mrro, .inl (cI, 5, .inl md))]) := by
  refine zI_of (by decide) (Nat.le_of_ble_eq_true rfl) ?_
  intro pP eE sS mM aA bB mT cC A ls Z hP hD hS hl
  have hx := Z.1
  have hb := Z.2.1
  have hown := Z.2.2.2.2.2.1
  have hts := Z.2.2.2.2.1
  have Z : zAt pP sS mM aA mT cC D cI cZ A "SurpriseTaxModel" cX9_openOf 2 (some .int) := Z
  have hl : lv_has ls 2 [(0, .ref M), (1, .int (nI i))] := hl
  obtain ⟨H, hH⟩ : ∃ H, H = sS.heap := ⟨_, rfl⟩
  have hP : va_P D vwCl [(M, .inr (9, [.int th, .ref mtx, .int (nI len), .int (nI pl), .int rt, .int fr, .int pr, .ref mod_, .int (nI n), .ref mne, .ref mro, .int (nI m), .int rrt, .int rfr, .int rpr, .ref mrod, .int (nI rn9), .ref mrne, .ref mrro, .int (nI rm9), .ref mrp, .ref mpg, .ref mbk, .int (nI ac), .ref mke, .ref mik, .int (nI cr), .ref mrw, .ref mrd, .long sd, .ref mtr, .ref mwo, .ref mnx, .int jr])), (mrro, .inl (cI, 5, .inl md))] H := by rw [hH]; exact hP
  have hS : va_S A sS.heap H [] := by rw [hH]; exact hS
  rw [← hH]
  clear hH
  obtain ⟨locs, hlo⟩ : ∃ q : List Loc, q = [] := ⟨_, rfl⟩
  rw [← hlo] at hS ⊢
  clear hlo
  refine lv_iconst (v := nI 1) hx hb dX9_openOf_0 (by decide) ?_
  refine lv_aload_n hx hb dX9_openOf_1 rfl (lv_at hl 0 rfl) ?_
  refine z_get (ci := 9) (v := .int (nI rn9)) Z zin9 hP 0 rfl rfl 16 (by decide) zm693 rfl rfl dX9_openOf_2 ?_
  refine lv_ishl hx hb dX9_openOf_5 ?_
  refine z_top (y := (1 : Int32) <<< ((nI rn9) &&& 31)) rfl ?_
  refine lv_iconst (v := nI 1) hx hb dX9_openOf_6 (by decide) ?_
  refine lv_isub hx hb dX9_openOf_7 ?_
  refine z_top (y := ((1 : Int32) <<< ((nI rn9) &&& 31)) - 1) rfl ?_
  refine lv_iconst (v := nI 1) hx hb dX9_openOf_8 (by decide) ?_
  refine lv_iload_n hx hb dX9_openOf_9 rfl (lv_at hl 1 rfl) ?_
  refine lv_ishl hx hb dX9_openOf_10 ?_
  refine z_top (y := (1 : Int32) <<< ((nI i) &&& 31)) rfl ?_
  refine lv_iconst (v := -1) hx hb dX9_openOf_11 (by decide) ?_
  refine lv_ixor hx hb dX9_openOf_12 ?_
  refine z_top (y := ((1 : Int32) <<< ((nI i) &&& 31)) ^^^ (-1)) rfl ?_
  refine lv_iand hx hb dX9_openOf_13 ?_
  refine z_top (y := (((1 : Int32) <<< ((nI rn9) &&& 31)) - 1) &&& (((1 : Int32) <<< ((nI i) &&& 31)) ^^^ (-1))) rfl ?_
  refine lv_aload_n hx hb dX9_openOf_14 rfl (lv_at hl 0 rfl) ?_
  refine z_get (ci := 9) (v := .ref mrro) Z zin9 hP 0 rfl rfl 18 (by decide) zm695 rfl rfl dX9_openOf_15 ?_
  refine lv_iload_n hx hb dX9_openOf_18 rfl (lv_at hl 1 rfl) ?_
  refine z_iald (n := 5) (f := md) (j := i) Z hP 1 rfl (by omega) (by decide) dX9_openOf_19 ?_
  refine lv_iconst (v := -1) hx hb dX9_openOf_20 (by decide) ?_
  refine lv_ixor hx hb dX9_openOf_21 ?_
  refine z_top (y := (md i) ^^^ (-1)) rfl ?_
  refine lv_iand hx hb dX9_openOf_22 ?_
  refine z_top (y := ((((1 : Int32) <<< ((nI rn9) &&& 31)) - 1) &&& (((1 : Int32) <<< ((nI i) &&& 31)) ^^^ (-1))) &&& ((md i) ^^^ (-1))) rfl ?_
  refine z_top (y := zren rn9 md i) (zand_ac _ _ _) ?_
  exact z_iret Z () rfl hP hS dX9_openOf_23

theorem dX9_hasOpen_0 : decode cX9_hasOpen 0 = .ok (.iconst 0, 1) := by decide +kernel
theorem dX9_hasOpen_1 : decode cX9_hasOpen 1 = .ok (.istore_n 1, 1) := by decide +kernel
theorem dX9_hasOpen_2 : decode cX9_hasOpen 2 = .ok (.iconst 0, 1) := by decide +kernel
theorem dX9_hasOpen_3 : decode cX9_hasOpen 3 = .ok (.istore_n 2, 1) := by decide +kernel
theorem dX9_hasOpen_4 : decode cX9_hasOpen 4 = .ok (.iload_n 2, 1) := by decide +kernel
theorem dX9_hasOpen_5 : decode cX9_hasOpen 5 = .ok (.aload_n 0, 1) := by decide +kernel
theorem dX9_hasOpen_6 : decode cX9_hasOpen 6 = .ok (.getfield 87, 3) := by decide +kernel
theorem dX9_hasOpen_9 : decode cX9_hasOpen 9 = .ok (.if_icmp .ge 27, 3) := by decide +kernel
theorem dX9_hasOpen_12 : decode cX9_hasOpen 12 = .ok (.iload_n 1, 1) := by decide +kernel
theorem dX9_hasOpen_13 : decode cX9_hasOpen 13 = .ok (.ifCond .ne 11, 3) := by decide +kernel
theorem dX9_hasOpen_16 : decode cX9_hasOpen 16 = .ok (.aload_n 0, 1) := by decide +kernel
theorem dX9_hasOpen_17 : decode cX9_hasOpen 17 = .ok (.iload_n 2, 1) := by decide +kernel
theorem dX9_hasOpen_18 : decode cX9_hasOpen 18 = .ok (.invokevirtual 90, 3) := by decide +kernel
theorem dX9_hasOpen_21 : decode cX9_hasOpen 21 = .ok (.ifCond .eq 7, 3) := by decide +kernel
theorem dX9_hasOpen_24 : decode cX9_hasOpen 24 = .ok (.iconst 1, 1) := by decide +kernel
theorem dX9_hasOpen_25 : decode cX9_hasOpen 25 = .ok (.goto 4, 3) := by decide +kernel
theorem dX9_hasOpen_28 : decode cX9_hasOpen 28 = .ok (.iconst 0, 1) := by decide +kernel
theorem dX9_hasOpen_29 : decode cX9_hasOpen 29 = .ok (.istore_n 1, 1) := by decide +kernel
theorem dX9_hasOpen_30 : decode cX9_hasOpen 30 = .ok (.iinc 2 1, 3) := by decide +kernel
theorem dX9_hasOpen_33 : decode cX9_hasOpen 33 = .ok (.goto (-29), 3) := by decide +kernel
theorem dX9_hasOpen_36 : decode cX9_hasOpen 36 = .ok (.iload_n 1, 1) := by decide +kernel
theorem dX9_hasOpen_37 : decode cX9_hasOpen 37 = .ok (.ireturn, 1) := by decide +kernel
theorem zd_X9_hasOpen : yX9_hasOpen.cls ≠ "java/lang/invoke/MethodHandle" ∧ yX9_hasOpen.cls ≠ "java/lang/invoke/VarHandle" ∧ (parseMethodDescriptor yX9_hasOpen.desc).map (fun d => d.parameters.length) = some 0 := by decide +kernel
set_option maxHeartbeats 4000000 in
set_option maxRecDepth 100000 in
theorem zc_X9_hasOpen (l : Launch) (D : va_G) (cI cZ : ClassId) (M : Nat) (th : Int32) (mtx : Nat) (len : Nat) (pl : Nat) (rt : Int32) (fr : Int32) (pr : Int32) (mod_ : Nat) (n : Nat) (mne : Nat) (mro : Nat) (m : Nat) (rrt : Int32) (rfr : Int32) (rpr : Int32) (mrod : Nat) (rn9 : Nat) (mrne : Nat) (mrro : Nat) (rm9 : Nat) (mrp : Nat) (mpg : Nat) (mbk : Nat) (ac : Nat) (mke : Nat) (mik : Nat) (cr : Nat) (mrw : Nat) (mrd : Nat) (sd : Int64) (mtr : Nat) (mwo : Nat) (mnx : Nat) (jr : Int32) (md : Nat → Int32) (hrn : rn9 ≤ 5) : zI l yX9_hasOpen cX9_hasOpen 3 .boolean 1 21 D cI cZ [.ref M] [(M, .inr (9, [.int th, .ref mtx, .int (nI len), .int (nI pl), .int rt, .int fr, .int pr, .ref mod_, .int (nI n), .ref mne, .ref mro, .int (nI m), .int rrt, .int rfr, .int rpr, .ref mrod, .int (nI rn9), .ref mrne, .ref mrro, .int (nI rm9), .ref mrp, .ref mpg, .ref mbk, .int (nI ac), .ref mke, .ref mik, .int (nI cr), .ref mrw, .ref mrd, .long sd, .ref mtr, .ref mwo, .ref mnx, .int jr])), (mrro, .inl (cI, 5, .inl md))] (fun (r : Int32) (u : Unit) => r = if zhoB rn9 md rn9 = true then 1 else 0) (fun (u : Unit) => [(M, .inr (9, [.int th, .ref mtx, .int (nI len), .int (nI pl), .int rt, .int fr, .int pr, .ref mod_, .int (nI n), .ref mne, .ref mro, .int (nI m), .int rrt, .int rfr, .int rpr, .ref mrod, .int (nI rn9), .ref mrne, .ref mrro, .int (nI rm9), .ref mrp, .ref mpg, .ref mbk, .int (nI ac), .ref mke, .ref mik, .int (nI cr), .ref mrw, .ref mrd, .long sd, .ref mtr, .ref mwo, .ref mnx, .int jr])), (mrro, .inl (cI, 5, .inl md))]) := by
  refine zI_of (by decide) (Nat.le_of_ble_eq_true rfl) ?_
  intro pP eE sS mM aA bB mT cC A ls Z hP hD hS hl
  have hx := Z.1
  have hb := Z.2.1
  have hown := Z.2.2.2.2.2.1
  have hts := Z.2.2.2.2.1
  have Z : zAt pP sS mM aA mT cC D cI cZ A "SurpriseTaxModel" cX9_hasOpen 3 (some .boolean) := Z
  have hl : lv_has ls 3 [(0, .ref M)] := hl
  obtain ⟨H, hH⟩ : ∃ H, H = sS.heap := ⟨_, rfl⟩
  have hP : va_P D vwCl [(M, .inr (9, [.int th, .ref mtx, .int (nI len), .int (nI pl), .int rt, .int fr, .int pr, .ref mod_, .int (nI n), .ref mne, .ref mro, .int (nI m), .int rrt, .int rfr, .int rpr, .ref mrod, .int (nI rn9), .ref mrne, .ref mrro, .int (nI rm9), .ref mrp, .ref mpg, .ref mbk, .int (nI ac), .ref mke, .ref mik, .int (nI cr), .ref mrw, .ref mrd, .long sd, .ref mtr, .ref mwo, .ref mnx, .int jr])), (mrro, .inl (cI, 5, .inl md))] H := by rw [hH]; exact hP
  have hS : va_S A sS.heap H [] := by rw [hH]; exact hS
  rw [← hH]
  clear hH
  obtain ⟨locs, hlo⟩ : ∃ q : List Loc, q = [] := ⟨_, rfl⟩
  rw [← hlo] at hS ⊢
  clear hlo
  refine lv_iconst (v := nI 0) hx hb dX9_hasOpen_0 (by decide) ?_
  refine lv_istore_n (lv' := [(1, .int (nI 0)), (0, .ref M)]) hx hb dX9_hasOpen_1 rfl hl (by decide) rfl (fun ls hl => ?_)
  refine lv_iconst (v := nI 0) hx hb dX9_hasOpen_2 (by decide) ?_
  refine lv_istore_n (lv' := [(2, .int (nI 0)), (1, .int (nI 0)), (0, .ref M)]) hx hb dX9_hasOpen_3 rfl hl (by decide) rfl (fun ls hl => ?_)
  have hl : lv_has ls 3 [(2, .int (nI 0)), (1, .int (nI 0)), (0, .ref M)] := lv_sub hl [0, 1, 2] rfl
  have e_2 : nI 0 = (if zhoB rn9 md 0 = true then 1 else 0) := by rfl
  have hl : lv_has ls 3 [(2, .int (nI 0)), (1, .int (if zhoB rn9 md 0 = true then 1 else 0)), (0, .ref M)] := Eq.subst (motive := fun zz_ => lv_has ls 3 [(2, .int (nI 0)), (1, .int zz_), (0, .ref M)]) e_2 hl
  refine z_loop (fun i H locs ls => va_P D vwCl [(M, .inr (9, [.int th, .ref mtx, .int (nI len), .int (nI pl), .int rt, .int fr, .int pr, .ref mod_, .int (nI n), .ref mne, .ref mro, .int (nI m), .int rrt, .int rfr, .int rpr, .ref mrod, .int (nI rn9), .ref mrne, .ref mrro, .int (nI rm9), .ref mrp, .ref mpg, .ref mbk, .int (nI ac), .ref mke, .ref mik, .int (nI cr), .ref mrw, .ref mrd, .long sd, .ref mtr, .ref mwo, .ref mnx, .int jr])), (mrro, .inl (cI, 5, .inl md))] H ∧ va_D A [(M, .inr (9, [.int th, .ref mtx, .int (nI len), .int (nI pl), .int rt, .int fr, .int pr, .ref mod_, .int (nI n), .ref mne, .ref mro, .int (nI m), .int rrt, .int rfr, .int rpr, .ref mrod, .int (nI rn9), .ref mrne, .ref mrro, .int (nI rm9), .ref mrp, .ref mpg, .ref mbk, .int (nI ac), .ref mke, .ref mik, .int (nI cr), .ref mrw, .ref mrd, .long sd, .ref mtr, .ref mwo, .ref mnx, .int jr])), (mrro, .inl (cI, 5, .inl md))] ∧ va_S A sS.heap H locs ∧ lv_has ls 3 [(2, .int (nI i)), (1, .int (if zhoB rn9 md i = true then 1 else 0)), (0, .ref M)]) (rn9) (lo := 0) (by omega) ⟨hP, hD, hS, hl⟩ (fun i hi_i ih_1 H locs ls hI => ?_)
  obtain ⟨hP, hD, hS, hl⟩ := hI
  have hP : va_P D vwCl [(M, .inr (9, [.int th, .ref mtx, .int (nI len), .int (nI pl), .int rt, .int fr, .int pr, .ref mod_, .int (nI n), .ref mne, .ref mro, .int (nI m), .int rrt, .int rfr, .int rpr, .ref mrod, .int (nI rn9), .ref mrne, .ref mrro, .int (nI rm9), .ref mrp, .ref mpg, .ref mbk, .int (nI ac), .ref mke, .ref mik, .int (nI cr), .ref mrw, .ref mrd, .long sd, .ref mtr, .ref mwo, .ref mnx, .int jr])), (mrro, .inl (cI, 5, .inl md))] H := hP
  have hD : va_D A [(M, .inr (9, [.int th, .ref mtx, .int (nI len), .int (nI pl), .int rt, .int fr, .int pr, .ref mod_, .int (nI n), .ref mne, .ref mro, .int (nI m), .int rrt, .int rfr, .int rpr, .ref mrod, .int (nI rn9), .ref mrne, .ref mrro, .int (nI rm9), .ref mrp, .ref mpg, .ref mbk, .int (nI ac), .ref mke, .ref mik, .int (nI cr), .ref mrw, .ref mrd, .long sd, .ref mtr, .ref mwo, .ref mnx, .int jr])), (mrro, .inl (cI, 5, .inl md))] := hD
  have hl : lv_has ls 3 [(2, .int (nI i)), (1, .int (if zhoB rn9 md i = true then 1 else 0)), (0, .ref M)] := hl
  refine lv_iload_n hx hb dX9_hasOpen_4 rfl (lv_at hl 0 rfl) ?_
  refine lv_aload_n hx hb dX9_hasOpen_5 rfl (lv_at hl 2 rfl) ?_
  refine z_get (ci := 9) (v := .int (nI rn9)) Z zin9 hP 0 rfl rfl 16 (by decide) zm693 rfl rfl dX9_hasOpen_6 ?_
  refine lv_icmp_ge (tgt := 36) hx hb dX9_hasOpen_9 (by decide) (fun c_3 => ?_) (fun c_3 => ?_)
  · have c_3 := zle (i := rn9) (j := i) (by omega) (by omega) c_3
    have hE_ : rn9 = i := by omega
    subst hE_
    refine lv_iload_n hx hb dX9_hasOpen_36 rfl (lv_at hl 1 rfl) ?_
    exact z_zret Z () zb01 rfl hP hS dX9_hasOpen_37
  · have c_3 := znle (i := rn9) (j := i) (by omega) (by omega) c_3
    refine lv_iload_n hx hb dX9_hasOpen_12 rfl (lv_at hl 1 rfl) ?_
    refine lv_if_ne (tgt := 24) hx hb dX9_hasOpen_13 (by decide) (fun c_4 => ?_) (fun c_4 => ?_)
    · have c_4 := zb1 c_4
      refine lv_iconst (v := nI 1) hx hb dX9_hasOpen_24 (by decide) ?_
      refine lv_goto (tgt := 29) hx hb dX9_hasOpen_25 (by decide) ?_
      refine lv_istore_n (lv' := [(1, .int (nI 1)), (2, .int (nI i)), (0, .ref M)]) hx hb dX9_hasOpen_29 rfl hl (by decide) rfl (fun ls hl => ?_)
      refine lv_iinc (v := nI (i + 1)) (lv' := [(2, .int (nI (i + 1))), (1, .int (nI 1)), (0, .ref M)]) hx hb dX9_hasOpen_30 hl (k := 1) rfl (z_inc _ 1) (by decide) rfl (fun ls hl => ?_)
      refine lv_goto (tgt := 4) hx hb dX9_hasOpen_33 (by decide) ?_
      have hl : lv_has ls 3 [(2, .int (nI (i + 1))), (1, .int (nI 1)), (0, .ref M)] := lv_sub hl [0, 1, 2] rfl
      have e_5 : nI 1 = (if zhoB rn9 md (i + 1) = true then 1 else 0) := by first | (rw [if_pos (zhoB_t1 (by assumption))]; rfl) | (rw [if_pos (zhoB_t2 (by assumption))]; rfl) | (rw [if_neg (zhoB_f (by assumption) (by assumption))]; rfl)
      have hl : lv_has ls 3 [(2, .int (nI (i + 1))), (1, .int (if zhoB rn9 md (i + 1) = true then 1 else 0)), (0, .ref M)] := Eq.subst (motive := fun zz_ => lv_has ls 3 [(2, .int (nI (i + 1))), (1, .int zz_), (0, .ref M)]) e_5 hl
      exact ih_1 _ _ _ (by omega) ⟨hP, hD, hS, hl⟩
    · have c_4 := zb0 c_4
      refine lv_aload_n hx hb dX9_hasOpen_16 rfl (lv_at hl 2 rfl) ?_
      refine lv_iload_n hx hb dX9_hasOpen_17 rfl (lv_at hl 0 rfl) ?_
      refine z_callVi (As := [.int (nI i)]) (rest := []) (ci := 9) (k0 := 0) Z hP hD hS hl.1 (zc_X9_openOf l D cI cZ M th mtx len pl rt fr pr mod_ n mne mro m rrt rfr rpr mrod rn9 mrne mrro rm9 mrp mpg mbk ac mke mik cr mrw mrd sd mtr mwo mnx jr md i (by omega) (by omega)) zm776 zm777 zm17 zm39 zm778 ⟨rfl, zd_X9_openOf⟩ ⟨Nat.le_of_ble_eq_true rfl, Nat.le_of_ble_eq_true rfl⟩ ⟨Nat.zero_le _, Nat.zero_le _⟩ [0, 1] rfl (by decide) rfl rfl rfl (fun _ => rfl) rfl (Nat.le_of_ble_eq_true rfl) rfl dX9_hasOpen_18 (fun r_6 u H locs h_7 hP hD hS => ?_)
      have hP : va_P D vwCl [(M, .inr (9, [.int th, .ref mtx, .int (nI len), .int (nI pl), .int rt, .int fr, .int pr, .ref mod_, .int (nI n), .ref mne, .ref mro, .int (nI m), .int rrt, .int rfr, .int rpr, .ref mrod, .int (nI rn9), .ref mrne, .ref mrro, .int (nI rm9), .ref mrp, .ref mpg, .ref mbk, .int (nI ac), .ref mke, .ref mik, .int (nI cr), .ref mrw, .ref mrd, .long sd, .ref mtr, .ref mwo, .ref mnx, .int jr])), (mrro, .inl (cI, 5, .inl md))] H := hP
      have hD : va_D A [(M, .inr (9, [.int th, .ref mtx, .int (nI len), .int (nI pl), .int rt, .int fr, .int pr, .ref mod_, .int (nI n), .ref mne, .ref mro, .int (nI m), .int rrt, .int rfr, .int rpr, .ref mrod, .int (nI rn9), .ref mrne, .ref mrro, .int (nI rm9), .ref mrp, .ref mpg, .ref mbk, .int (nI ac), .ref mke, .ref mik, .int (nI cr), .ref mrw, .ref mrd, .long sd, .ref mtr, .ref mwo, .ref mnx, .int jr])), (mrro, .inl (cI, 5, .inl md))] := hD
      have h_7 : r_6 = zren rn9 md i := h_7
      subst h_7
      refine lv_if_eq (tgt := 28) hx hb dX9_hasOpen_21 (by decide) (fun c_8 => ?_) (fun c_8 => ?_)
      · have c_8 : (zren rn9 md i) = 0 := c_8
        refine lv_iconst (v := nI 0) hx hb dX9_hasOpen_28 (by decide) ?_
        refine lv_istore_n (lv' := [(1, .int (nI 0)), (2, .int (nI i)), (0, .ref M)]) hx hb dX9_hasOpen_29 rfl hl (by decide) rfl (fun ls hl => ?_)
        refine lv_iinc (v := nI (i + 1)) (lv' := [(2, .int (nI (i + 1))), (1, .int (nI 0)), (0, .ref M)]) hx hb dX9_hasOpen_30 hl (k := 1) rfl (z_inc _ 1) (by decide) rfl (fun ls hl => ?_)
        refine lv_goto (tgt := 4) hx hb dX9_hasOpen_33 (by decide) ?_
        have hl : lv_has ls 3 [(2, .int (nI (i + 1))), (1, .int (nI 0)), (0, .ref M)] := lv_sub hl [0, 1, 2] rfl
        have e_9 : nI 0 = (if zhoB rn9 md (i + 1) = true then 1 else 0) := by first | (rw [if_pos (zhoB_t1 (by assumption))]; rfl) | (rw [if_pos (zhoB_t2 (by assumption))]; rfl) | (rw [if_neg (zhoB_f (by assumption) (by assumption))]; rfl)
        have hl : lv_has ls 3 [(2, .int (nI (i + 1))), (1, .int (if zhoB rn9 md (i + 1) = true then 1 else 0)), (0, .ref M)] := Eq.subst (motive := fun zz_ => lv_has ls 3 [(2, .int (nI (i + 1))), (1, .int zz_), (0, .ref M)]) e_9 hl
        exact ih_1 _ _ _ (by omega) ⟨hP, hD, hS, hl⟩
      · have c_8 : ¬ ((zren rn9 md i) = 0) := c_8
        refine lv_iconst (v := nI 1) hx hb dX9_hasOpen_24 (by decide) ?_
        refine lv_goto (tgt := 29) hx hb dX9_hasOpen_25 (by decide) ?_
        refine lv_istore_n (lv' := [(1, .int (nI 1)), (2, .int (nI i)), (0, .ref M)]) hx hb dX9_hasOpen_29 rfl hl (by decide) rfl (fun ls hl => ?_)
        refine lv_iinc (v := nI (i + 1)) (lv' := [(2, .int (nI (i + 1))), (1, .int (nI 1)), (0, .ref M)]) hx hb dX9_hasOpen_30 hl (k := 1) rfl (z_inc _ 1) (by decide) rfl (fun ls hl => ?_)
        refine lv_goto (tgt := 4) hx hb dX9_hasOpen_33 (by decide) ?_
        have hl : lv_has ls 3 [(2, .int (nI (i + 1))), (1, .int (nI 1)), (0, .ref M)] := lv_sub hl [0, 1, 2] rfl
        have e_10 : nI 1 = (if zhoB rn9 md (i + 1) = true then 1 else 0) := by first | (rw [if_pos (zhoB_t1 (by assumption))]; rfl) | (rw [if_pos (zhoB_t2 (by assumption))]; rfl) | (rw [if_neg (zhoB_f (by assumption) (by assumption))]; rfl)
        have hl : lv_has ls 3 [(2, .int (nI (i + 1))), (1, .int (if zhoB rn9 md (i + 1) = true then 1 else 0)), (0, .ref M)] := Eq.subst (motive := fun zz_ => lv_has ls 3 [(2, .int (nI (i + 1))), (1, .int zz_), (0, .ref M)]) e_10 hl
        exact ih_1 _ _ _ (by omega) ⟨hP, hD, hS, hl⟩
