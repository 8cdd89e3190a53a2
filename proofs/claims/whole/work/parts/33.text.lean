theorem zfg_X {a c j : Nat} (h : ¬ c = j) (h2 : c ≤ j) : zft a c j = zft a c (j + 1) := by
  unfold zft; rw [if_neg h, if_neg (by omega)]
theorem zfg_N {a j : Nat} : nI (a + j) = zft a j (j + 1) := by
  unfold zft; rw [if_neg (by omega)]
theorem zfg_Y {a j : Nat} : (-9 : Int32) = zft a j j := by
  unfold zft; rw [if_pos rfl]
theorem dX7_comes_0 : decode cX7_comes 0 = .ok (.aload_n 0, 1) := by decide +kernel
theorem dX7_comes_1 : decode cX7_comes 1 = .ok (.getfield 22, 3) := by decide +kernel
theorem dX7_comes_4 : decode cX7_comes 4 = .ok (.aload_n 0, 1) := by decide +kernel
theorem dX7_comes_5 : decode cX7_comes 5 = .ok (.getfield 18, 3) := by decide +kernel
theorem dX7_comes_8 : decode cX7_comes 8 = .ok (.if_icmp .ge 20, 3) := by decide +kernel
theorem dX7_comes_11 : decode cX7_comes 11 = .ok (.aload_n 0, 1) := by decide +kernel
theorem dX7_comes_12 : decode cX7_comes 12 = .ok (.getfield 9, 3) := by decide +kernel
theorem dX7_comes_15 : decode cX7_comes 15 = .ok (.aload_n 0, 1) := by decide +kernel
theorem dX7_comes_16 : decode cX7_comes 16 = .ok (.getfield 22, 3) := by decide +kernel
theorem dX7_comes_19 : decode cX7_comes 19 = .ok (.iaload, 1) := by decide +kernel
theorem dX7_comes_20 : decode cX7_comes 20 = .ok (.iload_n 1, 1) := by decide +kernel
theorem dX7_comes_21 : decode cX7_comes 21 = .ok (.if_icmp .ne 7, 3) := by decide +kernel
theorem dX7_comes_24 : decode cX7_comes 24 = .ok (.iconst 1, 1) := by decide +kernel
theorem dX7_comes_25 : decode cX7_comes 25 = .ok (.goto 4, 3) := by decide +kernel
theorem dX7_comes_28 : decode cX7_comes 28 = .ok (.iconst 0, 1) := by decide +kernel
theorem dX7_comes_29 : decode cX7_comes 29 = .ok (.ireturn, 1) := by decide +kernel
theorem zd_X7_comes : yX7_comes.cls ≠ "java/lang/invoke/MethodHandle" ∧ yX7_comes.cls ≠ "java/lang/invoke/VarHandle" ∧ (parseMethodDescriptor yX7_comes.desc).map (fun d => d.parameters.length) = some 1 := by decide +kernel
set_option maxHeartbeats 4000000 in
set_option maxRecDepth 100000 in
theorem zc_X7_comes (l : Launch) (D : va_G) (cI cZ : ClassId) (tx : Nat) (tb : Nat) (tt : Nat) (len : Nat) (at_ : Nat) (ft : Int32) (bf : Nat → Int32) (x1 : Int32) (hlen : len ≤ 64) (hat : at_ < 1000) : zI l yX7_comes cX7_comes 2 .boolean 0 0 D cI cZ [.ref tx, .int x1] [(tx, .inr (7, [.ref tb, .ref tt, .int (nI len), .int (nI at_), .int ft])), (tb, .inl (cI, 64, .inl bf))] (fun (r : Int32) (u : Unit) => r = if at_ < len ∧ bf at_ = x1 then 1 else 0) (fun (u : Unit) => [(tx, .inr (7, [.ref tb, .ref tt, .int (nI len), .int (nI at_), .int ft])), (tb, .inl (cI, 64, .inl bf))]) := by
  refine zI_of (by decide) (Nat.le_of_ble_eq_true rfl) ?_
  intro pP eE sS mM aA bB mT cC A ls Z hP hD hS hl
  have hx := Z.1
  have hb := Z.2.1
  have hown := Z.2.2.2.2.2.1
  have hts := Z.2.2.2.2.1
  have Z : zAt pP sS mM aA mT cC D cI cZ A "SurpriseTax$Text" cX7_comes 2 (some .boolean) := Z
  have hl : lv_has ls 2 [(0, .ref tx), (1, .int x1)] := hl
  obtain ⟨H, hH⟩ : ∃ H, H = sS.heap := ⟨_, rfl⟩
  have hP : va_P D vwCl [(tx, .inr (7, [.ref tb, .ref tt, .int (nI len), .int (nI at_), .int ft])), (tb, .inl (cI, 64, .inl bf))] H := by rw [hH]; exact hP
  have hS : va_S A sS.heap H [] := by rw [hH]; exact hS
  rw [← hH]
  clear hH
  obtain ⟨locs, hlo⟩ : ∃ q : List Loc, q = [] := ⟨_, rfl⟩
  rw [← hlo] at hS ⊢
  clear hlo
  refine lv_aload_n hx hb dX7_comes_0 rfl (lv_at hl 0 rfl) ?_
  refine z_get (ci := 7) (v := .int (nI at_)) Z zin7 hP 0 rfl rfl 3 (by decide) zm59 rfl rfl dX7_comes_1 ?_
  refine lv_aload_n hx hb dX7_comes_4 rfl (lv_at hl 0 rfl) ?_
  refine z_get (ci := 7) (v := .int (nI len)) Z zin7 hP 0 rfl rfl 2 (by decide) zm58 rfl rfl dX7_comes_5 ?_
  refine lv_icmp_ge (tgt := 28) hx hb dX7_comes_8 (by decide) (fun c_1 => ?_) (fun c_1 => ?_)
  · have c_1 := zle (i := len) (j := at_) (by omega) (by omega) c_1
    refine lv_iconst (v := nI 0) hx hb dX7_comes_28 (by decide) ?_
    exact z_zret Z () (by decide) (by first | (rw [if_pos ⟨by assumption, by assumption⟩]; rfl) | (rw [if_neg (fun z => absurd z.1 (by omega))]; rfl) | (rw [if_neg (fun z => absurd z.2 (by assumption))]; rfl)) hP hS dX7_comes_29
  · have c_1 := znle (i := len) (j := at_) (by omega) (by omega) c_1
    refine lv_aload_n hx hb dX7_comes_11 rfl (lv_at hl 0 rfl) ?_
    refine z_get (ci := 7) (v := .ref tb) Z zin7 hP 0 rfl rfl 0 (by decide) zm56 rfl rfl dX7_comes_12 ?_
    refine lv_aload_n hx hb dX7_comes_15 rfl (lv_at hl 0 rfl) ?_
    refine z_get (ci := 7) (v := .int (nI at_)) Z zin7 hP 0 rfl rfl 3 (by decide) zm59 rfl rfl dX7_comes_16 ?_
    refine z_iald (n := 64) (f := bf) (j := at_) Z hP 1 rfl (by omega) (by decide) dX7_comes_19 ?_
    refine lv_iload_n hx hb dX7_comes_20 rfl (lv_at hl 1 rfl) ?_
    refine lv_icmp_ne (tgt := 28) hx hb dX7_comes_21 (by decide) (fun c_2 => ?_) (fun c_2 => ?_)
    · have c_2 : ¬ ((bf at_) = x1) := c_2
      refine lv_iconst (v := nI 0) hx hb dX7_comes_28 (by decide) ?_
      exact z_zret Z () (by decide) (by first | (rw [if_pos ⟨by assumption, by assumption⟩]; rfl) | (rw [if_neg (fun z => absurd z.1 (by omega))]; rfl) | (rw [if_neg (fun z => absurd z.2 (by assumption))]; rfl)) hP hS dX7_comes_29
    · have c_2 : (bf at_) = x1 := c_2
      refine lv_iconst (v := nI 1) hx hb dX7_comes_24 (by decide) ?_
      refine lv_goto (tgt := 29) hx hb dX7_comes_25 (by decide) ?_
      exact z_zret Z () (by decide) (by first | (rw [if_pos ⟨by assumption, by assumption⟩]; rfl) | (rw [if_neg (fun z => absurd z.1 (by omega))]; rfl) | (rw [if_neg (fun z => absurd z.2 (by assumption))]; rfl)) hP hS dX7_comes_29

theorem dX7_figure_0 : decode cX7_figure 0 = .ok (.aload_n 0, 1) := by decide +kernel
theorem dX7_figure_1 : decode cX7_figure 1 = .ok (.getfield 25, 3) := by decide +kernel
theorem dX7_figure_4 : decode cX7_figure 4 = .ok (.bipush (-9), 2) := by decide +kernel
theorem dX7_figure_6 : decode cX7_figure 6 = .ok (.if_icmp .eq 5, 3) := by decide +kernel
theorem dX7_figure_9 : decode cX7_figure 9 = .ok (.iconst 0, 1) := by decide +kernel
theorem dX7_figure_10 : decode cX7_figure 10 = .ok (.ireturn, 1) := by decide +kernel
theorem dX7_figure_11 : decode cX7_figure 11 = .ok (.aload_n 0, 1) := by decide +kernel
theorem dX7_figure_12 : decode cX7_figure 12 = .ok (.getfield 22, 3) := by decide +kernel
theorem dX7_figure_15 : decode cX7_figure 15 = .ok (.aload_n 0, 1) := by decide +kernel
theorem dX7_figure_16 : decode cX7_figure 16 = .ok (.getfield 18, 3) := by decide +kernel
theorem dX7_figure_19 : decode cX7_figure 19 = .ok (.if_icmp .ge 18, 3) := by decide +kernel
theorem dX7_figure_22 : decode cX7_figure 22 = .ok (.aload_n 0, 1) := by decide +kernel
theorem dX7_figure_23 : decode cX7_figure 23 = .ok (.getfield 9, 3) := by decide +kernel
theorem dX7_figure_26 : decode cX7_figure 26 = .ok (.aload_n 0, 1) := by decide +kernel
theorem dX7_figure_27 : decode cX7_figure 27 = .ok (.getfield 22, 3) := by decide +kernel
theorem dX7_figure_30 : decode cX7_figure 30 = .ok (.iaload, 1) := by decide +kernel
theorem dX7_figure_31 : decode cX7_figure 31 = .ok (.bipush 48, 2) := by decide +kernel
theorem dX7_figure_33 : decode cX7_figure 33 = .ok (.isub, 1) := by decide +kernel
theorem dX7_figure_34 : decode cX7_figure 34 = .ok (.goto 4, 3) := by decide +kernel
theorem dX7_figure_37 : decode cX7_figure 37 = .ok (.iconst (-1), 1) := by decide +kernel
theorem dX7_figure_38 : decode cX7_figure 38 = .ok (.istore_n 2, 1) := by decide +kernel
theorem dX7_figure_39 : decode cX7_figure 39 = .ok (.iload_n 2, 1) := by decide +kernel
theorem dX7_figure_40 : decode cX7_figure 40 = .ok (.ifCond .lt 17, 3) := by decide +kernel
theorem dX7_figure_43 : decode cX7_figure 43 = .ok (.iload_n 2, 1) := by decide +kernel
theorem dX7_figure_44 : decode cX7_figure 44 = .ok (.bipush 9, 2) := by decide +kernel
theorem dX7_figure_46 : decode cX7_figure 46 = .ok (.if_icmp .gt 11, 3) := by decide +kernel
theorem dX7_figure_49 : decode cX7_figure 49 = .ok (.iload_n 1, 1) := by decide +kernel
theorem dX7_figure_50 : decode cX7_figure 50 = .ok (.iload_n 2, 1) := by decide +kernel
theorem dX7_figure_51 : decode cX7_figure 51 = .ok (.ishr, 1) := by decide +kernel
theorem dX7_figure_52 : decode cX7_figure 52 = .ok (.iconst 1, 1) := by decide +kernel
theorem dX7_figure_53 : decode cX7_figure 53 = .ok (.iand, 1) := by decide +kernel
theorem dX7_figure_54 : decode cX7_figure 54 = .ok (.ifCond .ne 13, 3) := by decide +kernel
theorem dX7_figure_57 : decode cX7_figure 57 = .ok (.aload_n 0, 1) := by decide +kernel
theorem dX7_figure_58 : decode cX7_figure 58 = .ok (.aload_n 0, 1) := by decide +kernel
theorem dX7_figure_59 : decode cX7_figure 59 = .ok (.getfield 22, 3) := by decide +kernel
theorem dX7_figure_62 : decode cX7_figure 62 = .ok (.putfield 25, 3) := by decide +kernel
theorem dX7_figure_65 : decode cX7_figure 65 = .ok (.iconst 0, 1) := by decide +kernel
theorem dX7_figure_66 : decode cX7_figure 66 = .ok (.ireturn, 1) := by decide +kernel
theorem dX7_figure_67 : decode cX7_figure 67 = .ok (.aload_n 0, 1) := by decide +kernel
theorem dX7_figure_68 : decode cX7_figure 68 = .ok (.dup, 1) := by decide +kernel
theorem dX7_figure_69 : decode cX7_figure 69 = .ok (.getfield 22, 3) := by decide +kernel
theorem dX7_figure_72 : decode cX7_figure 72 = .ok (.iconst 1, 1) := by decide +kernel
theorem dX7_figure_73 : decode cX7_figure 73 = .ok (.iadd, 1) := by decide +kernel
theorem dX7_figure_74 : decode cX7_figure 74 = .ok (.putfield 22, 3) := by decide +kernel
theorem dX7_figure_77 : decode cX7_figure 77 = .ok (.iload_n 2, 1) := by decide +kernel
theorem dX7_figure_78 : decode cX7_figure 78 = .ok (.ireturn, 1) := by decide +kernel
theorem zd_X7_figure : yX7_figure.cls ≠ "java/lang/invoke/MethodHandle" ∧ yX7_figure.cls ≠ "java/lang/invoke/VarHandle" ∧ (parseMethodDescriptor yX7_figure.desc).map (fun d => d.parameters.length) = some 1 := by decide +kernel
set_option maxHeartbeats 4000000 in
set_option maxRecDepth 100000 in
theorem zc_X7_figure (l : Launch) (D : va_G) (cI cZ : ClassId) (tx : Nat) (tb : Nat) (tt : Nat) (len : Nat) (bf : Nat → Int32) (oq : Nat → Bool) (ap : Nat) (jq : Nat) (al : Int32) (hlen : len ≤ 64) (hq : zcq oq jq = jq → (zok bf len (ap + jq) al ↔ oq jq = true)) (haj : ap + jq < 1000) : zI l yX7_figure cX7_figure 3 .int 0 0 D cI cZ [.ref tx, .int al] [(tx, .inr (7, [.ref tb, .ref tt, .int (nI len), .int (nI (ap + zcq oq jq)), .int (zft ap (zcq oq jq) jq)])), (tb, .inl (cI, 64, .inl bf))] (fun (r : Int32) (u : Unit) => r = nI (zvd oq bf ap jq)) (fun (u : Unit) => [(tx, .inr (7, [.ref tb, .ref tt, .int (nI len), .int (nI (ap + zcq oq (jq + 1))), .int (zft ap (zcq oq (jq + 1)) (jq + 1))])), (tb, .inl (cI, 64, .inl bf))]) := by
  refine zI_of (by decide) (Nat.le_of_ble_eq_true rfl) ?_
  intro pP eE sS mM aA bB mT cC A ls Z hP hD hS hl
  have hx := Z.1
  have hb := Z.2.1
  have hown := Z.2.2.2.2.2.1
  have hts := Z.2.2.2.2.1
  have Z : zAt pP sS mM aA mT cC D cI cZ A "SurpriseTax$Text" cX7_figure 3 (some .int) := Z
  have hl : lv_has ls 3 [(0, .ref tx), (1, .int al)] := hl
  obtain ⟨H, hH⟩ : ∃ H, H = sS.heap := ⟨_, rfl⟩
  have hP : va_P D vwCl [(tx, .inr (7, [.ref tb, .ref tt, .int (nI len), .int (nI (ap + zcq oq jq)), .int (zft ap (zcq oq jq) jq)])), (tb, .inl (cI, 64, .inl bf))] H := by rw [hH]; exact hP
  have hS : va_S A sS.heap H [] := by rw [hH]; exact hS
  rw [← hH]
  clear hH
  obtain ⟨locs, hlo⟩ : ∃ q : List Loc, q = [] := ⟨_, rfl⟩
  rw [← hlo] at hS ⊢
  clear hlo
  have hcl := zcq_le oq jq
  refine lv_aload_n hx hb dX7_figure_0 rfl (lv_at hl 0 rfl) ?_
  refine z_get (ci := 7) (v := .int (zft ap (zcq oq jq) jq)) Z zin7 hP 0 rfl rfl 4 (by decide) zm60 rfl rfl dX7_figure_1 ?_
  refine lv_bipush (v := -9) hx hb dX7_figure_4 (by decide) ?_
  refine lv_icmp_eq (tgt := 11) hx hb dX7_figure_6 (by decide) (fun c_1 => ?_) (fun c_1 => ?_)
  · have c_1 : (zft ap (zcq oq jq) jq) = (-9 : Int32) := c_1
    have hc := zft_9 (by omega) c_1
    have e_2 : nI (ap + zcq oq jq) = nI (ap + jq) := by rw [hc]
    have hP : va_P D vwCl [(tx, .inr (7, [.ref tb, .ref tt, .int (nI len), .int (nI (ap + jq)), .int (zft ap (zcq oq jq) jq)])), (tb, .inl (cI, 64, .inl bf))] H := Eq.subst (motive := fun zz_ => va_P D vwCl [(tx, .inr (7, [.ref tb, .ref tt, .int (nI len), .int zz_, .int (zft ap (zcq oq jq) jq)])), (tb, .inl (cI, 64, .inl bf))] H) e_2 hP
    have hD : va_D A [(tx, .inr (7, [.ref tb, .ref tt, .int (nI len), .int (nI (ap + jq)), .int (zft ap (zcq oq jq) jq)])), (tb, .inl (cI, 64, .inl bf))] := zD_of hD rfl
    have e_3 : zft ap (zcq oq jq) jq = -9 := by exact c_1
    have hP : va_P D vwCl [(tx, .inr (7, [.ref tb, .ref tt, .int (nI len), .int (nI (ap + jq)), .int (-9)])), (tb, .inl (cI, 64, .inl bf))] H := Eq.subst (motive := fun zz_ => va_P D vwCl [(tx, .inr (7, [.ref tb, .ref tt, .int (nI len), .int (nI (ap + jq)), .int zz_])), (tb, .inl (cI, 64, .inl bf))] H) e_3 hP
    have hD : va_D A [(tx, .inr (7, [.ref tb, .ref tt, .int (nI len), .int (nI (ap + jq)), .int (-9)])), (tb, .inl (cI, 64, .inl bf))] := zD_of hD rfl
    refine lv_aload_n hx hb dX7_figure_11 rfl (lv_at hl 0 rfl) ?_
    refine z_get (ci := 7) (v := .int (nI (ap + jq))) Z zin7 hP 0 rfl rfl 3 (by decide) zm59 rfl rfl dX7_figure_12 ?_
    refine lv_aload_n hx hb dX7_figure_15 rfl (lv_at hl 0 rfl) ?_
    refine z_get (ci := 7) (v := .int (nI len)) Z zin7 hP 0 rfl rfl 2 (by decide) zm58 rfl rfl dX7_figure_16 ?_
    refine lv_icmp_ge (tgt := 37) hx hb dX7_figure_19 (by decide) (fun c_4 => ?_) (fun c_4 => ?_)
    · have c_4 := zle (i := len) (j := ap + jq) (by omega) (by omega) c_4
      refine lv_iconst (v := -1) hx hb dX7_figure_37 (by decide) ?_
      refine lv_istore_n (lv' := [(2, .int (-1)), (0, .ref tx), (1, .int al)]) hx hb dX7_figure_38 rfl hl (by decide) rfl (fun ls hl => ?_)
      refine lv_iload_n hx hb dX7_figure_39 rfl (lv_at hl 0 rfl) ?_
      refine lv_if_lt (tgt := 57) hx hb dX7_figure_40 (by decide) (fun c_5 => ?_) (fun c_5 => ?_)
      · have c_5 : (-1 : Int32) < 0 := c_5
        have hN : ¬ zok bf len (ap + jq) al := by
          rintro ⟨z0, z1, z2, z3⟩
          first | omega | exact absurd (by assumption) z1 | exact absurd z2 (Int32.not_le.mpr (by assumption)) | exact z3 (by assumption)
        have hxx : ¬ (zcq oq jq = jq ∧ oq jq = true) := fun z => hN ((hq hc).mpr z.2)
        have hn := zcq_n hxx
        have hn1 := zcq_n1 hxx
        refine lv_aload_n hx hb dX7_figure_57 rfl (lv_at hl 1 rfl) ?_
        refine lv_aload_n hx hb dX7_figure_58 rfl (lv_at hl 1 rfl) ?_
        refine z_get (ci := 7) (v := .int (nI (ap + jq))) Z zin7 hP 0 rfl rfl 3 (by decide) zm59 rfl rfl dX7_figure_59 ?_
        refine z_put (ci := 7) (v := .int (nI (ap + jq))) Z zin7 tyX7 tyX7_ok nmX7 hP hD hS 0 rfl rfl 4 (by decide) zm60 rfl rfl rfl rfl (Nat.le_of_ble_eq_true rfl) dX7_figure_62 (fun H locs hP hD hS => ?_)
        have hP : va_P D vwCl [(tx, .inr (7, [.ref tb, .ref tt, .int (nI len), .int (nI (ap + jq)), .int (nI (ap + jq))])), (tb, .inl (cI, 64, .inl bf))] H := hP
        have hD : va_D A [(tx, .inr (7, [.ref tb, .ref tt, .int (nI len), .int (nI (ap + jq)), .int (nI (ap + jq))])), (tb, .inl (cI, 64, .inl bf))] := hD
        refine lv_iconst (v := nI 0) hx hb dX7_figure_65 (by decide) ?_
        have e_6 : nI (ap + jq) = nI (ap + zcq oq (jq + 1)) := by first | (rw [zvd_n hn1]) | (rw [hn]; exact zfg_X hxx hcl) | (rw [hn]; done) | (rw [hn, hc]; done) | (rw [hn, hc]; exact zfg_N) | (rw [hy]; exact hd.trans (congrArg nI (zvd_y hy).symm)) | (rw [hy]; rfl) | (rw [hy, zft, if_pos rfl]; done) | (rw [zvd_y hy]; exact hd)
        have hP : va_P D vwCl [(tx, .inr (7, [.ref tb, .ref tt, .int (nI len), .int (nI (ap + zcq oq (jq + 1))), .int (nI (ap + jq))])), (tb, .inl (cI, 64, .inl bf))] H := Eq.subst (motive := fun zz_ => va_P D vwCl [(tx, .inr (7, [.ref tb, .ref tt, .int (nI len), .int zz_, .int (nI (ap + jq))])), (tb, .inl (cI, 64, .inl bf))] H) e_6 hP
        have e_7 : nI (ap + jq) = zft ap (zcq oq (jq + 1)) (jq + 1) := by first | (rw [zvd_n hn1]) | (rw [hn]; exact zfg_X hxx hcl) | (rw [hn]; done) | (rw [hn, hc]; done) | (rw [hn, hc]; exact zfg_N) | (rw [hy]; exact hd.trans (congrArg nI (zvd_y hy).symm)) | (rw [hy]; rfl) | (rw [hy, zft, if_pos rfl]; done) | (rw [zvd_y hy]; exact hd)
        have hP : va_P D vwCl [(tx, .inr (7, [.ref tb, .ref tt, .int (nI len), .int (nI (ap + zcq oq (jq + 1))), .int (zft ap (zcq oq (jq + 1)) (jq + 1))])), (tb, .inl (cI, 64, .inl bf))] H := Eq.subst (motive := fun zz_ => va_P D vwCl [(tx, .inr (7, [.ref tb, .ref tt, .int (nI len), .int (nI (ap + zcq oq (jq + 1))), .int zz_])), (tb, .inl (cI, 64, .inl bf))] H) e_7 hP
        have hD : va_D A [(tx, .inr (7, [.ref tb, .ref tt, .int (nI len), .int (nI (ap + zcq oq (jq + 1))), .int (zft ap (zcq oq (jq + 1)) (jq + 1))])), (tb, .inl (cI, 64, .inl bf))] := zD_of hD rfl
        exact z_iret Z () (by first | (rw [zvd_n hn1]) | (rw [hn]; exact zfg_X hxx hcl) | (rw [hn]; done) | (rw [hn, hc]; done) | (rw [hn, hc]; exact zfg_N) | (rw [hy]; exact hd.trans (congrArg nI (zvd_y hy).symm)) | (rw [hy]; rfl) | (rw [hy, zft, if_pos rfl]; done) | (rw [zvd_y hy]; exact hd)) hP hS dX7_figure_66
      · have c_5 : ¬ ((-1 : Int32) < 0) := c_5
        exact absurd (show (-1 : Int32) < 0 by decide) c_5
    · have c_4 := znle (i := len) (j := ap + jq) (by omega) (by omega) c_4
      refine lv_aload_n hx hb dX7_figure_22 rfl (lv_at hl 0 rfl) ?_
      refine z_get (ci := 7) (v := .ref tb) Z zin7 hP 0 rfl rfl 0 (by decide) zm56 rfl rfl dX7_figure_23 ?_
      refine lv_aload_n hx hb dX7_figure_26 rfl (lv_at hl 0 rfl) ?_
      refine z_get (ci := 7) (v := .int (nI (ap + jq))) Z zin7 hP 0 rfl rfl 3 (by decide) zm59 rfl rfl dX7_figure_27 ?_
      refine z_iald (n := 64) (f := bf) (j := ap + jq) Z hP 1 rfl (by omega) (by decide) dX7_figure_30 ?_
      refine lv_bipush (v := nI 48) hx hb dX7_figure_31 (by decide) ?_
      refine lv_isub hx hb dX7_figure_33 ?_
      refine z_top (y := (bf (ap + jq)) - 48) rfl ?_
      refine lv_goto (tgt := 38) hx hb dX7_figure_34 (by decide) ?_
      refine lv_istore_n (lv' := [(2, .int ((bf (ap + jq)) - 48)), (0, .ref tx), (1, .int al)]) hx hb dX7_figure_38 rfl hl (by decide) rfl (fun ls hl => ?_)
      refine lv_iload_n hx hb dX7_figure_39 rfl (lv_at hl 0 rfl) ?_
      refine lv_if_lt (tgt := 57) hx hb dX7_figure_40 (by decide) (fun c_8 => ?_) (fun c_8 => ?_)
      · have c_8 : ((bf (ap + jq)) - 48) < 0 := c_8
        have hN : ¬ zok bf len (ap + jq) al := by
          rintro ⟨z0, z1, z2, z3⟩
          first | omega | exact absurd (by assumption) z1 | exact absurd z2 (Int32.not_le.mpr (by assumption)) | exact z3 (by assumption)
        have hxx : ¬ (zcq oq jq = jq ∧ oq jq = true) := fun z => hN ((hq hc).mpr z.2)
        have hn := zcq_n hxx
        have hn1 := zcq_n1 hxx
        refine lv_aload_n hx hb dX7_figure_57 rfl (lv_at hl 1 rfl) ?_
        refine lv_aload_n hx hb dX7_figure_58 rfl (lv_at hl 1 rfl) ?_
        refine z_get (ci := 7) (v := .int (nI (ap + jq))) Z zin7 hP 0 rfl rfl 3 (by decide) zm59 rfl rfl dX7_figure_59 ?_
        refine z_put (ci := 7) (v := .int (nI (ap + jq))) Z zin7 tyX7 tyX7_ok nmX7 hP hD hS 0 rfl rfl 4 (by decide) zm60 rfl rfl rfl rfl (Nat.le_of_ble_eq_true rfl) dX7_figure_62 (fun H locs hP hD hS => ?_)
        have hP : va_P D vwCl [(tx, .inr (7, [.ref tb, .ref tt, .int (nI len), .int (nI (ap + jq)), .int (nI (ap + jq))])), (tb, .inl (cI, 64, .inl bf))] H := hP
        have hD : va_D A [(tx, .inr (7, [.ref tb, .ref tt, .int (nI len), .int (nI (ap + jq)), .int (nI (ap + jq))])), (tb, .inl (cI, 64, .inl bf))] := hD
        refine lv_iconst (v := nI 0) hx hb dX7_figure_65 (by decide) ?_
        have e_9 : nI (ap + jq) = nI (ap + zcq oq (jq + 1)) := by first | (rw [zvd_n hn1]) | (rw [hn]; exact zfg_X hxx hcl) | (rw [hn]; done) | (rw [hn, hc]; done) | (rw [hn, hc]; exact zfg_N) | (rw [hy]; exact hd.trans (congrArg nI (zvd_y hy).symm)) | (rw [hy]; rfl) | (rw [hy, zft, if_pos rfl]; done) | (rw [zvd_y hy]; exact hd)
        have hP : va_P D vwCl [(tx, .inr (7, [.ref tb, .ref tt, .int (nI len), .int (nI (ap + zcq oq (jq + 1))), .int (nI (ap + jq))])), (tb, .inl (cI, 64, .inl bf))] H := Eq.subst (motive := fun zz_ => va_P D vwCl [(tx, .inr (7, [.ref tb, .ref tt, .int (nI len), .int zz_, .int (nI (ap + jq))])), (tb, .inl (cI, 64, .inl bf))] H) e_9 hP
        have e_10 : nI (ap + jq) = zft ap (zcq oq (jq + 1)) (jq + 1) := by first | (rw [zvd_n hn1]) | (rw [hn]; exact zfg_X hxx hcl) | (rw [hn]; done) | (rw [hn, hc]; done) | (rw [hn, hc]; exact zfg_N) | (rw [hy]; exact hd.trans (congrArg nI (zvd_y hy).symm)) | (rw [hy]; rfl) | (rw [hy, zft, if_pos rfl]; done) | (rw [zvd_y hy]; exact hd)
        have hP : va_P D vwCl [(tx, .inr (7, [.ref tb, .ref tt, .int (nI len), .int (nI (ap + zcq oq (jq + 1))), .int (zft ap (zcq oq (jq + 1)) (jq + 1))])), (tb, .inl (cI, 64, .inl bf))] H := Eq.subst (motive := fun zz_ => va_P D vwCl [(tx, .inr (7, [.ref tb, .ref tt, .int (nI len), .int (nI (ap + zcq oq (jq + 1))), .int zz_])), (tb, .inl (cI, 64, .inl bf))] H) e_10 hP
        have hD : va_D A [(tx, .inr (7, [.ref tb, .ref tt, .int (nI len), .int (nI (ap + zcq oq (jq + 1))), .int (zft ap (zcq oq (jq + 1)) (jq + 1))])), (tb, .inl (cI, 64, .inl bf))] := zD_of hD rfl
        exact z_iret Z () (by first | (rw [zvd_n hn1]) | (rw [hn]; exact zfg_X hxx hcl) | (rw [hn]; done) | (rw [hn, hc]; done) | (rw [hn, hc]; exact zfg_N) | (rw [hy]; exact hd.trans (congrArg nI (zvd_y hy).symm)) | (rw [hy]; rfl) | (rw [hy, zft, if_pos rfl]; done) | (rw [zvd_y hy]; exact hd)) hP hS dX7_figure_66
      · have c_8 : ¬ (((bf (ap + jq)) - 48) < 0) := c_8
        refine lv_iload_n hx hb dX7_figure_43 rfl (lv_at hl 0 rfl) ?_
        refine lv_bipush (v := nI 9) hx hb dX7_figure_44 (by decide) ?_
        refine lv_icmp_gt (tgt := 57) hx hb dX7_figure_46 (by decide) (fun c_11 => ?_) (fun c_11 => ?_)
        · have c_11 : 9 < ((bf (ap + jq)) - 48) := c_11
          have hN : ¬ zok bf len (ap + jq) al := by
            rintro ⟨z0, z1, z2, z3⟩
            first | omega | exact absurd (by assumption) z1 | exact absurd z2 (Int32.not_le.mpr (by assumption)) | exact z3 (by assumption)
          have hxx : ¬ (zcq oq jq = jq ∧ oq jq = true) := fun z => hN ((hq hc).mpr z.2)
          have hn := zcq_n hxx
          have hn1 := zcq_n1 hxx
          refine lv_aload_n hx hb dX7_figure_57 rfl (lv_at hl 1 rfl) ?_
          refine lv_aload_n hx hb dX7_figure_58 rfl (lv_at hl 1 rfl) ?_
          refine z_get (ci := 7) (v := .int (nI (ap + jq))) Z zin7 hP 0 rfl rfl 3 (by decide) zm59 rfl rfl dX7_figure_59 ?_
          refine z_put (ci := 7) (v := .int (nI (ap + jq))) Z zin7 tyX7 tyX7_ok nmX7 hP hD hS 0 rfl rfl 4 (by decide) zm60 rfl rfl rfl rfl (Nat.le_of_ble_eq_true rfl) dX7_figure_62 (fun H locs hP hD hS => ?_)
          have hP : va_P D vwCl [(tx, .inr (7, [.ref tb, .ref tt, .int (nI len), .int (nI (ap + jq)), .int (nI (ap + jq))])), (tb, .inl (cI, 64, .inl bf))] H := hP
          have hD : va_D A [(tx, .inr (7, [.ref tb, .ref tt, .int (nI len), .int (nI (ap + jq)), .int (nI (ap + jq))])), (tb, .inl (cI, 64, .inl bf))] := hD
          refine lv_iconst (v := nI 0) hx hb dX7_figure_65 (by decide) ?_
          have e_12 : nI (ap + jq) = nI (ap + zcq oq (jq + 1)) := by first | (rw [zvd_n hn1]) | (rw [hn]; exact zfg_X hxx hcl) | (rw [hn]; done) | (rw [hn, hc]; done) | (rw [hn, hc]; exact zfg_N) | (rw [hy]; exact hd.trans (congrArg nI (zvd_y hy).symm)) | (rw [hy]; rfl) | (rw [hy, zft, if_pos rfl]; done) | (rw [zvd_y hy]; exact hd)
          have hP : va_P D vwCl [(tx, .inr (7, [.ref tb, .ref tt, .int (nI len), .int (nI (ap + zcq oq (jq + 1))), .int (nI (ap + jq))])), (tb, .inl (cI, 64, .inl bf))] H := Eq.subst (motive := fun zz_ => va_P D vwCl [(tx, .inr (7, [.ref tb, .ref tt, .int (nI len), .int zz_, .int (nI (ap + jq))])), (tb, .inl (cI, 64, .inl bf))] H) e_12 hP
          have e_13 : nI (ap + jq) = zft ap (zcq oq (jq + 1)) (jq + 1) := by first | (rw [zvd_n hn1]) | (rw [hn]; exact zfg_X hxx hcl) | (rw [hn]; done) | (rw [hn, hc]; done) | (rw [hn, hc]; exact zfg_N) | (rw [hy]; exact hd.trans (congrArg nI (zvd_y hy).symm)) | (rw [hy]; rfl) | (rw [hy, zft, if_pos rfl]; done) | (rw [zvd_y hy]; exact hd)
          have hP : va_P D vwCl [(tx, .inr (7, [.ref tb, .ref tt, .int (nI len), .int (nI (ap + zcq oq (jq + 1))), .int (zft ap (zcq oq (jq + 1)) (jq + 1))])), (tb, .inl (cI, 64, .inl bf))] H := Eq.subst (motive := fun zz_ => va_P D vwCl [(tx, .inr (7, [.ref tb, .ref tt, .int (nI len), .int (nI (ap + zcq oq (jq + 1))), .int zz_])), (tb, .inl (cI, 64, .inl bf))] H) e_13 hP
          have hD : va_D A [(tx, .inr (7, [.ref tb, .ref tt, .int (nI len), .int (nI (ap + zcq oq (jq + 1))), .int (zft ap (zcq oq (jq + 1)) (jq + 1))])), (tb, .inl (cI, 64, .inl bf))] := zD_of hD rfl
          exact z_iret Z () (by first | (rw [zvd_n hn1]) | (rw [hn]; exact zfg_X hxx hcl) | (rw [hn]; done) | (rw [hn, hc]; done) | (rw [hn, hc]; exact zfg_N) | (rw [hy]; exact hd.trans (congrArg nI (zvd_y hy).symm)) | (rw [hy]; rfl) | (rw [hy, zft, if_pos rfl]; done) | (rw [zvd_y hy]; exact hd)) hP hS dX7_figure_66
        · have c_11 : ¬ (9 < ((bf (ap + jq)) - 48)) := c_11
          refine lv_iload_n hx hb dX7_figure_49 rfl (lv_at hl 2 rfl) ?_
          refine lv_iload_n hx hb dX7_figure_50 rfl (lv_at hl 0 rfl) ?_
          refine lv_ishr hx hb dX7_figure_51 ?_
          refine z_top (y := al >>> (((bf (ap + jq)) - 48) &&& 31)) rfl ?_
          refine lv_iconst (v := nI 1) hx hb dX7_figure_52 (by decide) ?_
          refine lv_iand hx hb dX7_figure_53 ?_
          refine z_top (y := (al >>> (((bf (ap + jq)) - 48) &&& 31)) &&& 1) rfl ?_
          refine lv_if_ne (tgt := 67) hx hb dX7_figure_54 (by decide) (fun c_14 => ?_) (fun c_14 => ?_)
          · have c_14 : ¬ (((al >>> (((bf (ap + jq)) - 48) &&& 31)) &&& 1) = 0) := c_14
            have hY : zok bf len (ap + jq) al := ⟨by omega, by assumption, by first | assumption | exact Int32.not_lt.mp (by assumption), by assumption⟩
            have hy := zcq_y hc ((hq hc).mp hY)
            have hd := (zok_d hY).2.1
            refine lv_aload_n hx hb dX7_figure_67 rfl (lv_at hl 1 rfl) ?_
            refine lv_dup hx hb dX7_figure_68 rfl ?_
            refine z_get (ci := 7) (v := .int (nI (ap + jq))) Z zin7 hP 0 rfl rfl 3 (by decide) zm59 rfl rfl dX7_figure_69 ?_
            refine lv_iconst (v := nI 1) hx hb dX7_figure_72 (by decide) ?_
            refine lv_iadd hx hb dX7_figure_73 ?_
            refine z_top (y := nI (ap + jq + 1)) (z_add _ _) ?_
            refine z_put (ci := 7) (v := .int (nI (ap + jq + 1))) Z zin7 tyX7 tyX7_ok nmX7 hP hD hS 0 rfl rfl 3 (by decide) zm59 rfl rfl rfl rfl (Nat.le_of_ble_eq_true rfl) dX7_figure_74 (fun H locs hP hD hS => ?_)
            have hP : va_P D vwCl [(tx, .inr (7, [.ref tb, .ref tt, .int (nI len), .int (nI (ap + jq + 1)), .int (-9)])), (tb, .inl (cI, 64, .inl bf))] H := hP
            have hD : va_D A [(tx, .inr (7, [.ref tb, .ref tt, .int (nI len), .int (nI (ap + jq + 1)), .int (-9)])), (tb, .inl (cI, 64, .inl bf))] := hD
            refine lv_iload_n hx hb dX7_figure_77 rfl (lv_at hl 0 rfl) ?_
            have e_15 : nI (ap + jq + 1) = nI (ap + zcq oq (jq + 1)) := by first | (rw [zvd_n hn1]) | (rw [hn]; exact zfg_X hxx hcl) | (rw [hn]; done) | (rw [hn, hc]; done) | (rw [hn, hc]; exact zfg_N) | (rw [hy]; exact hd.trans (congrArg nI (zvd_y hy).symm)) | (rw [hy]; rfl) | (rw [hy, zft, if_pos rfl]; done) | (rw [zvd_y hy]; exact hd)
            have hP : va_P D vwCl [(tx, .inr (7, [.ref tb, .ref tt, .int (nI len), .int (nI (ap + zcq oq (jq + 1))), .int (-9)])), (tb, .inl (cI, 64, .inl bf))] H := Eq.subst (motive := fun zz_ => va_P D vwCl [(tx, .inr (7, [.ref tb, .ref tt, .int (nI len), .int zz_, .int (-9)])), (tb, .inl (cI, 64, .inl bf))] H) e_15 hP
            have e_16 : -9 = zft ap (zcq oq (jq + 1)) (jq + 1) := by first | (rw [zvd_n hn1]) | (rw [hn]; exact zfg_X hxx hcl) | (rw [hn]; done) | (rw [hn, hc]; done) | (rw [hn, hc]; exact zfg_N) | (rw [hy]; exact hd.trans (congrArg nI (zvd_y hy).symm)) | (rw [hy]; rfl) | (rw [hy, zft, if_pos rfl]; done) | (rw [zvd_y hy]; exact hd)
            have hP : va_P D vwCl [(tx, .inr (7, [.ref tb, .ref tt, .int (nI len), .int (nI (ap + zcq oq (jq + 1))), .int (zft ap (zcq oq (jq + 1)) (jq + 1))])), (tb, .inl (cI, 64, .inl bf))] H := Eq.subst (motive := fun zz_ => va_P D vwCl [(tx, .inr (7, [.ref tb, .ref tt, .int (nI len), .int (nI (ap + zcq oq (jq + 1))), .int zz_])), (tb, .inl (cI, 64, .inl bf))] H) e_16 hP
            have hD : va_D A [(tx, .inr (7, [.ref tb, .ref tt, .int (nI len), .int (nI (ap + zcq oq (jq + 1))), .int (zft ap (zcq oq (jq + 1)) (jq + 1))])), (tb, .inl (cI, 64, .inl bf))] := zD_of hD rfl
            exact z_iret Z () (by first | (rw [zvd_n hn1]) | (rw [hn]; exact zfg_X hxx hcl) | (rw [hn]; done) | (rw [hn, hc]; done) | (rw [hn, hc]; exact zfg_N) | (rw [hy]; exact hd.trans (congrArg nI (zvd_y hy).symm)) | (rw [hy]; rfl) | (rw [hy, zft, if_pos rfl]; done) | (rw [zvd_y hy]; exact hd)) hP hS dX7_figure_78
          · have c_14 : ((al >>> (((bf (ap + jq)) - 48) &&& 31)) &&& 1) = 0 := c_14
            have hN : ¬ zok bf len (ap + jq) al := by
              rintro ⟨z0, z1, z2, z3⟩
              first | omega | exact absurd (by assumption) z1 | exact absurd z2 (Int32.not_le.mpr (by assumption)) | exact z3 (by assumption)
            have hxx : ¬ (zcq oq jq = jq ∧ oq jq = true) := fun z => hN ((hq hc).mpr z.2)
            have hn := zcq_n hxx
            have hn1 := zcq_n1 hxx
            refine lv_aload_n hx hb dX7_figure_57 rfl (lv_at hl 1 rfl) ?_
            refine lv_aload_n hx hb dX7_figure_58 rfl (lv_at hl 1 rfl) ?_
            refine z_get (ci := 7) (v := .int (nI (ap + jq))) Z zin7 hP 0 rfl rfl 3 (by decide) zm59 rfl rfl dX7_figure_59 ?_
            refine z_put (ci := 7) (v := .int (nI (ap + jq))) Z zin7 tyX7 tyX7_ok nmX7 hP hD hS 0 rfl rfl 4 (by decide) zm60 rfl rfl rfl rfl (Nat.le_of_ble_eq_true rfl) dX7_figure_62 (fun H locs hP hD hS => ?_)
            have hP : va_P D vwCl [(tx, .inr (7, [.ref tb, .ref tt, .int (nI len), .int (nI (ap + jq)), .int (nI (ap + jq))])), (tb, .inl (cI, 64, .inl bf))] H := hP
            have hD : va_D A [(tx, .inr (7, [.ref tb, .ref tt, .int (nI len), .int (nI (ap + jq)), .int (nI (ap + jq))])), (tb, .inl (cI, 64, .inl bf))] := hD
            refine lv_iconst (v := nI 0) hx hb dX7_figure_65 (by decide) ?_
            have e_17 : nI (ap + jq) = nI (ap + zcq oq (jq + 1)) := by first | (rw [zvd_n hn1]) | (rw [hn]; exact zfg_X hxx hcl) | (rw [hn]; done) | (rw [hn, hc]; done) | (rw [hn, hc]; exact zfg_N) | (rw [hy]; exact hd.trans (congrArg nI (zvd_y hy).symm)) | (rw [hy]; rfl) | (rw [hy, zft, if_pos rfl]; done) | (rw [zvd_y hy]; exact hd)
            have hP : va_P D vwCl [(tx, .inr (7, [.ref tb, .ref tt, .int (nI len), .int (nI (ap + zcq oq (jq + 1))), .int (nI (ap + jq))])), (tb, .inl (cI, 64, .inl bf))] H := Eq.subst (motive := fun zz_ => va_P D vwCl [(tx, .inr (7, [.ref tb, .ref tt, .int (nI len), .int zz_, .int (nI (ap + jq))])), (tb, .inl (cI, 64, .inl bf))] H) e_17 hP
            have e_18 : nI (ap + jq) = zft ap (zcq oq (jq + 1)) (jq + 1) := by first | (rw [zvd_n hn1]) | (rw [hn]; exact zfg_X hxx hcl) | (rw [hn]; done) | (rw [hn, hc]; done) | (rw [hn, hc]; exact zfg_N) | (rw [hy]; exact hd.trans (congrArg nI (zvd_y hy).symm)) | (rw [hy]; rfl) | (rw [hy, zft, if_pos rfl]; done) | (rw [zvd_y hy]; exact hd)
            have hP : va_P D vwCl [(tx, .inr (7, [.ref tb, .ref tt, .int (nI len), .int (nI (ap + zcq oq (jq + 1))), .int (zft ap (zcq oq (jq + 1)) (jq + 1))])), (tb, .inl (cI, 64, .inl bf))] H := Eq.subst (motive := fun zz_ => va_P D vwCl [(tx, .inr (7, [.ref tb, .ref tt, .int (nI len), .int (nI (ap + zcq oq (jq + 1))), .int zz_])), (tb, .inl (cI, 64, .inl bf))] H) e_18 hP
            have hD : va_D A [(tx, .inr (7, [.ref tb, .ref tt, .int (nI len), .int (nI (ap + zcq oq (jq + 1))), .int (zft ap (zcq oq (jq + 1)) (jq + 1))])), (tb, .inl (cI, 64, .inl bf))] := zD_of hD rfl
            exact z_iret Z () (by first | (rw [zvd_n hn1]) | (rw [hn]; exact zfg_X hxx hcl) | (rw [hn]; done) | (rw [hn, hc]; done) | (rw [hn, hc]; exact zfg_N) | (rw [hy]; exact hd.trans (congrArg nI (zvd_y hy).symm)) | (rw [hy]; rfl) | (rw [hy, zft, if_pos rfl]; done) | (rw [zvd_y hy]; exact hd)) hP hS dX7_figure_66
  · have c_1 : ¬ ((zft ap (zcq oq jq) jq) = (-9 : Int32)) := c_1
    have hxx := zft_n c_1
    have hn := zcq_n (o := oq) (j := jq) (fun z => hxx z.1)
    have hn1 := zcq_n1 (o := oq) (j := jq) (fun z => hxx z.1)
    refine lv_iconst (v := nI 0) hx hb dX7_figure_9 (by decide) ?_
    have e_19 : nI (ap + zcq oq jq) = nI (ap + zcq oq (jq + 1)) := by first | (rw [zvd_n hn1]) | (rw [hn]; exact zfg_X hxx hcl) | (rw [hn]; done) | (rw [hn, hc]; done) | (rw [hn, hc]; exact zfg_N) | (rw [hy]; exact hd.trans (congrArg nI (zvd_y hy).symm)) | (rw [hy]; rfl) | (rw [hy, zft, if_pos rfl]; done) | (rw [zvd_y hy]; exact hd)
    have hP : va_P D vwCl [(tx, .inr (7, [.ref tb, .ref tt, .int (nI len), .int (nI (ap + zcq oq (jq + 1))), .int (zft ap (zcq oq jq) jq)])), (tb, .inl (cI, 64, .inl bf))] H := Eq.subst (motive := fun zz_ => va_P D vwCl [(tx, .inr (7, [.ref tb, .ref tt, .int (nI len), .int zz_, .int (zft ap (zcq oq jq) jq)])), (tb, .inl (cI, 64, .inl bf))] H) e_19 hP
    have e_20 : zft ap (zcq oq jq) jq = zft ap (zcq oq (jq + 1)) (jq + 1) := by first | (rw [zvd_n hn1]) | (rw [hn]; exact zfg_X hxx hcl) | (rw [hn]; done) | (rw [hn, hc]; done) | (rw [hn, hc]; exact zfg_N) | (rw [hy]; exact hd.trans (congrArg nI (zvd_y hy).symm)) | (rw [hy]; rfl) | (rw [hy, zft, if_pos rfl]; done) | (rw [zvd_y hy]; exact hd)
    have hP : va_P D vwCl [(tx, .inr (7, [.ref tb, .ref tt, .int (nI len), .int (nI (ap + zcq oq (jq + 1))), .int (zft ap (zcq oq (jq + 1)) (jq + 1))])), (tb, .inl (cI, 64, .inl bf))] H := Eq.subst (motive := fun zz_ => va_P D vwCl [(tx, .inr (7, [.ref tb, .ref tt, .int (nI len), .int (nI (ap + zcq oq (jq + 1))), .int zz_])), (tb, .inl (cI, 64, .inl bf))] H) e_20 hP
    have hD : va_D A [(tx, .inr (7, [.ref tb, .ref tt, .int (nI len), .int (nI (ap + zcq oq (jq + 1))), .int (zft ap (zcq oq (jq + 1)) (jq + 1))])), (tb, .inl (cI, 64, .inl bf))] := zD_of hD rfl
    exact z_iret Z () (by first | (rw [zvd_n hn1]) | (rw [hn]; exact zfg_X hxx hcl) | (rw [hn]; done) | (rw [hn, hc]; done) | (rw [hn, hc]; exact zfg_N) | (rw [hy]; exact hd.trans (congrArg nI (zvd_y hy).symm)) | (rw [hy]; rfl) | (rw [hy, zft, if_pos rfl]; done) | (rw [zvd_y hy]; exact hd)) hP hS dX7_figure_10

theorem dX7_readTenths_0 : decode cX7_readTenths 0 = .ok (.bipush 10, 2) := by decide +kernel
theorem dX7_readTenths_2 : decode cX7_readTenths 2 = .ok (.istore_n 1, 1) := by decide +kernel
theorem dX7_readTenths_3 : decode cX7_readTenths 3 = .ok (.iconst 0, 1) := by decide +kernel
theorem dX7_readTenths_4 : decode cX7_readTenths 4 = .ok (.istore_n 2, 1) := by decide +kernel
theorem dX7_readTenths_5 : decode cX7_readTenths 5 = .ok (.iload_n 2, 1) := by decide +kernel
theorem dX7_readTenths_6 : decode cX7_readTenths 6 = .ok (.iconst 4, 1) := by decide +kernel
theorem dX7_readTenths_7 : decode cX7_readTenths 7 = .ok (.if_icmp .ge 57, 3) := by decide +kernel
theorem dX7_readTenths_10 : decode cX7_readTenths 10 = .ok (.iconst 0, 1) := by decide +kernel
theorem dX7_readTenths_11 : decode cX7_readTenths 11 = .ok (.iload_n 1, 1) := by decide +kernel
theorem dX7_readTenths_12 : decode cX7_readTenths 12 = .ok (.bipush 9, 2) := by decide +kernel
theorem dX7_readTenths_14 : decode cX7_readTenths 14 = .ok (.iconst 3, 1) := by decide +kernel
theorem dX7_readTenths_15 : decode cX7_readTenths 15 = .ok (.iload_n 2, 1) := by decide +kernel
theorem dX7_readTenths_16 : decode cX7_readTenths 16 = .ok (.isub, 1) := by decide +kernel
theorem dX7_readTenths_17 : decode cX7_readTenths 17 = .ok (.imul, 1) := by decide +kernel
theorem dX7_readTenths_18 : decode cX7_readTenths 18 = .ok (.isub, 1) := by decide +kernel
theorem dX7_readTenths_19 : decode cX7_readTenths 19 = .ok (.invokestatic 99, 3) := by decide +kernel
theorem dX7_readTenths_22 : decode cX7_readTenths 22 = .ok (.istore_n 3, 1) := by decide +kernel
theorem dX7_readTenths_23 : decode cX7_readTenths 23 = .ok (.bipush 9, 2) := by decide +kernel
theorem dX7_readTenths_25 : decode cX7_readTenths 25 = .ok (.iload_n 1, 1) := by decide +kernel
theorem dX7_readTenths_26 : decode cX7_readTenths 26 = .ok (.invokestatic 105, 3) := by decide +kernel
theorem dX7_readTenths_29 : decode cX7_readTenths 29 = .ok (.istore 4, 2) := by decide +kernel
theorem dX7_readTenths_31 : decode cX7_readTenths 31 = .ok (.aload_n 0, 1) := by decide +kernel
theorem dX7_readTenths_32 : decode cX7_readTenths 32 = .ok (.getfield 15, 3) := by decide +kernel
theorem dX7_readTenths_35 : decode cX7_readTenths 35 = .ok (.iload_n 2, 1) := by decide +kernel
theorem dX7_readTenths_36 : decode cX7_readTenths 36 = .ok (.aload_n 0, 1) := by decide +kernel
theorem dX7_readTenths_37 : decode cX7_readTenths 37 = .ok (.iconst 2, 1) := by decide +kernel
theorem dX7_readTenths_38 : decode cX7_readTenths 38 = .ok (.iload 4, 2) := by decide +kernel
theorem dX7_readTenths_40 : decode cX7_readTenths 40 = .ok (.ishl, 1) := by decide +kernel
theorem dX7_readTenths_41 : decode cX7_readTenths 41 = .ok (.iconst 1, 1) := by decide +kernel
theorem dX7_readTenths_42 : decode cX7_readTenths 42 = .ok (.iload_n 3, 1) := by decide +kernel
theorem dX7_readTenths_43 : decode cX7_readTenths 43 = .ok (.ishl, 1) := by decide +kernel
theorem dX7_readTenths_44 : decode cX7_readTenths 44 = .ok (.isub, 1) := by decide +kernel
theorem dX7_readTenths_45 : decode cX7_readTenths 45 = .ok (.invokevirtual 50, 3) := by decide +kernel
theorem dX7_readTenths_48 : decode cX7_readTenths 48 = .ok (.iastore, 1) := by decide +kernel
theorem dX7_readTenths_49 : decode cX7_readTenths 49 = .ok (.iload_n 1, 1) := by decide +kernel
theorem dX7_readTenths_50 : decode cX7_readTenths 50 = .ok (.aload_n 0, 1) := by decide +kernel
theorem dX7_readTenths_51 : decode cX7_readTenths 51 = .ok (.getfield 15, 3) := by decide +kernel
theorem dX7_readTenths_54 : decode cX7_readTenths 54 = .ok (.iload_n 2, 1) := by decide +kernel
theorem dX7_readTenths_55 : decode cX7_readTenths 55 = .ok (.iaload, 1) := by decide +kernel
theorem dX7_readTenths_56 : decode cX7_readTenths 56 = .ok (.isub, 1) := by decide +kernel
theorem dX7_readTenths_57 : decode cX7_readTenths 57 = .ok (.istore_n 1, 1) := by decide +kernel
theorem dX7_readTenths_58 : decode cX7_readTenths 58 = .ok (.iinc 2 1, 3) := by decide +kernel
theorem dX7_readTenths_61 : decode cX7_readTenths 61 = .ok (.goto (-56), 3) := by decide +kernel
theorem dX7_readTenths_64 : decode cX7_readTenths 64 = .ok (.return_, 1) := by decide +kernel
theorem zd_X7_readTenths : yX7_readTenths.cls ≠ "java/lang/invoke/MethodHandle" ∧ yX7_readTenths.cls ≠ "java/lang/invoke/VarHandle" ∧ (parseMethodDescriptor yX7_readTenths.desc).map (fun d => d.parameters.length) = some 0 := by decide +kernel
set_option maxHeartbeats 4000000 in
set_option maxRecDepth 100000 in
theorem zc_X7_readTenths (l : Launch) (D : va_G) (cI cZ : ClassId) (tx : Nat) (tb : Nat) (tt : Nat) (len : Nat) (bf : Nat → Int32) (oq : Nat → Bool) (ap : Nat) (jq : Nat) (te : Nat → Int32) (hlen : len ≤ 64) (hoT : ∀ k, k < 4 → oq (jq + k) = zoT bf len (ap + jq) k) (haj : ap + jq < 900) : zV l yX7_readTenths cX7_readTenths 5 1 22 D cI cZ [.ref tx] [(tx, .inr (7, [.ref tb, .ref tt, .int (nI len), .int (nI (ap + zcq oq jq)), .int (zft ap (zcq oq jq) jq)])), (tb, .inl (cI, 64, .inl bf)), (tt, .inl (cI, 4, .inl te))] (fun (u : (Nat → Int32)) => zcq oq (jq + 4) = jq + 4 → ∀ y, y < 4 → u y = nI (zdg bf (ap + jq + y))) (fun (u : (Nat → Int32)) => [(tx, .inr (7, [.ref tb, .ref tt, .int (nI len), .int (nI (ap + zcq oq (jq + 4))), .int (zft ap (zcq oq (jq + 4)) (jq + 4))])), (tb, .inl (cI, 64, .inl bf)), (tt, .inl (cI, 4, .inl u))]) := by
  refine zV_of (by decide) (Nat.le_of_ble_eq_true rfl) ?_
  intro pP eE sS mM aA bB mT cC A ls Z hP hD hS hl
  have hx := Z.1
  have hb := Z.2.1
  have hown := Z.2.2.2.2.2.1
  have hts := Z.2.2.2.2.1
  have Z : zAt pP sS mM aA mT cC D cI cZ A "SurpriseTax$Text" cX7_readTenths 5 none := Z
  have hl : lv_has ls 5 [(0, .ref tx)] := hl
  obtain ⟨H, hH⟩ : ∃ H, H = sS.heap := ⟨_, rfl⟩
  have hP : va_P D vwCl [(tx, .inr (7, [.ref tb, .ref tt, .int (nI len), .int (nI (ap + zcq oq jq)), .int (zft ap (zcq oq jq) jq)])), (tb, .inl (cI, 64, .inl bf)), (tt, .inl (cI, 4, .inl te))] H := by rw [hH]; exact hP
  have hS : va_S A sS.heap H [] := by rw [hH]; exact hS
  rw [← hH]
  clear hH
  obtain ⟨locs, hlo⟩ : ∃ q : List Loc, q = [] := ⟨_, rfl⟩
  rw [← hlo] at hS ⊢
  clear hlo
  refine lv_bipush (v := nI 10) hx hb dX7_readTenths_0 (by decide) ?_
  refine lv_istore_n (lv' := [(1, .int (nI 10)), (0, .ref tx)]) hx hb dX7_readTenths_2 rfl hl (by decide) rfl (fun ls hl => ?_)
  refine lv_iconst (v := nI 0) hx hb dX7_readTenths_3 (by decide) ?_
  refine lv_istore_n (lv' := [(2, .int (nI 0)), (1, .int (nI 10)), (0, .ref tx)]) hx hb dX7_readTenths_4 rfl hl (by decide) rfl (fun ls hl => ?_)
  have e_2 : nI (ap + zcq oq jq) = nI (ap + zcq oq (jq + 0)) := by rfl
  have hP : va_P D vwCl [(tx, .inr (7, [.ref tb, .ref tt, .int (nI len), .int (nI (ap + zcq oq (jq + 0))), .int (zft ap (zcq oq jq) jq)])), (tb, .inl (cI, 64, .inl bf)), (tt, .inl (cI, 4, .inl te))] H := Eq.subst (motive := fun zz_ => va_P D vwCl [(tx, .inr (7, [.ref tb, .ref tt, .int (nI len), .int zz_, .int (zft ap (zcq oq jq) jq)])), (tb, .inl (cI, 64, .inl bf)), (tt, .inl (cI, 4, .inl te))] H) e_2 hP
  have e_3 : zft ap (zcq oq jq) jq = zft ap (zcq oq (jq + 0)) (jq + 0) := by rfl
  have hP : va_P D vwCl [(tx, .inr (7, [.ref tb, .ref tt, .int (nI len), .int (nI (ap + zcq oq (jq + 0))), .int (zft ap (zcq oq (jq + 0)) (jq + 0))])), (tb, .inl (cI, 64, .inl bf)), (tt, .inl (cI, 4, .inl te))] H := Eq.subst (motive := fun zz_ => va_P D vwCl [(tx, .inr (7, [.ref tb, .ref tt, .int (nI len), .int (nI (ap + zcq oq (jq + 0))), .int zz_])), (tb, .inl (cI, 64, .inl bf)), (tt, .inl (cI, 4, .inl te))] H) e_3 hP
  have hD : va_D A [(tx, .inr (7, [.ref tb, .ref tt, .int (nI len), .int (nI (ap + zcq oq (jq + 0))), .int (zft ap (zcq oq (jq + 0)) (jq + 0))])), (tb, .inl (cI, 64, .inl bf)), (tt, .inl (cI, 4, .inl te))] := zD_of hD rfl
  have hl : lv_has ls 5 [(2, .int (nI 0)), (1, .int (nI 10)), (0, .ref tx)] := lv_sub hl [0, 1, 2] rfl
  refine z_loopm (fun (x_ : Nat × Nat × (Nat → Int32)) H locs ls => va_P D vwCl [(tx, .inr (7, [.ref tb, .ref tt, .int (nI len), .int (nI (ap + zcq oq (jq + x_.1))), .int (zft ap (zcq oq (jq + x_.1)) (jq + x_.1))])), (tb, .inl (cI, 64, .inl bf)), (tt, .inl (cI, 4, .inl x_.2.2))] H ∧ va_D A [(tx, .inr (7, [.ref tb, .ref tt, .int (nI len), .int (nI (ap + zcq oq (jq + x_.1))), .int (zft ap (zcq oq (jq + x_.1)) (jq + x_.1))])), (tb, .inl (cI, 64, .inl bf)), (tt, .inl (cI, 4, .inl x_.2.2))] ∧ va_S A sS.heap H locs ∧ lv_has ls 5 [(2, .int (nI x_.1)), (1, .int (nI x_.2.1)), (0, .ref tx)] ∧ (x_.1 ≤ 4) ∧ (x_.2.1 ≤ 10) ∧ (zcq oq (jq + x_.1) = jq + x_.1 → x_.2.1 = zlf bf (ap + jq) x_.1 ∧ x_.2.1 ≤ 9 * (4 - x_.1)) ∧ (zcq oq (jq + x_.1) = jq + x_.1 → ∀ y, y < x_.1 → x_.2.2 y = nI (zdg bf (ap + jq + y)))) (fun x_ => 4 - x_.1) (0, 10, te) ⟨hP, hD, hS, hl, (by first | exact Nat.zero_le _ | exact Nat.le_refl 10 | exact fun _ => ⟨rfl, (by decide : (10 : Nat) ≤ 36)⟩ | exact fun _ y hy => absurd hy (Nat.not_lt_zero _)), (by first | exact Nat.zero_le _ | exact Nat.le_refl 10 | exact fun _ => ⟨rfl, (by decide : (10 : Nat) ≤ 36)⟩ | exact fun _ y hy => absurd hy (Nat.not_lt_zero _)), (by first | exact Nat.zero_le _ | exact Nat.le_refl 10 | exact fun _ => ⟨rfl, (by decide : (10 : Nat) ≤ 36)⟩ | exact fun _ y hy => absurd hy (Nat.not_lt_zero _)), (by first | exact Nat.zero_le _ | exact Nat.le_refl 10 | exact fun _ => ⟨rfl, (by decide : (10 : Nat) ≤ 36)⟩ | exact fun _ y hy => absurd hy (Nat.not_lt_zero _))⟩ (fun x_ ih_1 H locs ls hI => ?_)
  obtain ⟨k, l9, te9⟩ := x_
  obtain ⟨hP, hD, hS, hl, hv5_0, hv5_1, hv5_2, hv5_3⟩ := hI
  dsimp only at ih_1 hv5_0 hv5_1 hv5_2 hv5_3
  have hv5_0 : k ≤ 4 := hv5_0
  have hv5_1 : l9 ≤ 10 := hv5_1
  have hv5_2 : zcq oq (jq + k) = jq + k → l9 = zlf bf (ap + jq) k ∧ l9 ≤ 9 * (4 - k) := hv5_2
  have hv5_3 : zcq oq (jq + k) = jq + k → ∀ y, y < k → te9 y = nI (zdg bf (ap + jq + y)) := hv5_3
  have hP : va_P D vwCl [(tx, .inr (7, [.ref tb, .ref tt, .int (nI len), .int (nI (ap + zcq oq (jq + k))), .int (zft ap (zcq oq (jq + k)) (jq + k))])), (tb, .inl (cI, 64, .inl bf)), (tt, .inl (cI, 4, .inl te9))] H := hP
  have hD : va_D A [(tx, .inr (7, [.ref tb, .ref tt, .int (nI len), .int (nI (ap + zcq oq (jq + k))), .int (zft ap (zcq oq (jq + k)) (jq + k))])), (tb, .inl (cI, 64, .inl bf)), (tt, .inl (cI, 4, .inl te9))] := hD
  have hl : lv_has ls 5 [(2, .int (nI k)), (1, .int (nI l9)), (0, .ref tx)] := hl
  refine lv_iload_n hx hb dX7_readTenths_5 rfl (lv_at hl 0 rfl) ?_
  refine lv_iconst (v := nI 4) hx hb dX7_readTenths_6 (by decide) ?_
  refine lv_icmp_ge (tgt := 64) hx hb dX7_readTenths_7 (by decide) (fun c_4 => ?_) (fun c_4 => ?_)
  · have c_4 := zle (i := 4) (j := k) (by decide) (by omega) c_4
    have hE_ : 4 = k := by omega
    subst hE_
    exact z_vret Z (te9) (by exact hv5_3) hP hS dX7_readTenths_64
  · have c_4 := znle (i := 4) (j := k) (by decide) (by omega) c_4
    have hvd := zvd_k (hoT k (by omega)) hv5_1 (by omega) hv5_2
    refine lv_iconst (v := nI 0) hx hb dX7_readTenths_10 (by decide) ?_
    refine lv_iload_n hx hb dX7_readTenths_11 rfl (lv_at hl 1 rfl) ?_
    refine lv_bipush (v := nI 9) hx hb dX7_readTenths_12 (by decide) ?_
    refine lv_iconst (v := nI 3) hx hb dX7_readTenths_14 (by decide) ?_
    refine lv_iload_n hx hb dX7_readTenths_15 rfl (lv_at hl 0 rfl) ?_
    refine lv_isub hx hb dX7_readTenths_16 ?_
    refine z_top (y := nI (3 - k)) (z_sub' (by omega)) ?_
    refine lv_imul hx hb dX7_readTenths_17 ?_
    refine z_top (y := nI (9 * (3 - k))) (z_mul _ _) ?_
    refine lv_isub hx hb dX7_readTenths_18 ?_
    refine z_max Z hl.1 zm241 zm242 zm40 zm243 (Nat.le_of_ble_eq_true rfl) (Nat.le_of_ble_eq_true rfl) (Nat.zero_le _) (Nat.zero_le _) dX7_readTenths_19 ?_
    refine z_top (y := if 0 < ((nI l9) - (nI (9 * (3 - k)))) then ((nI l9) - (nI (9 * (3 - k)))) else 0) rfl ?_
    refine z_top (y := nI (l9 - 9 * (3 - k))) (zmax0 l9 (by omega) _ (by omega)) ?_
    refine lv_istore_n (lv' := [(3, .int (nI (l9 - 9 * (3 - k)))), (2, .int (nI k)), (1, .int (nI l9)), (0, .ref tx)]) hx hb dX7_readTenths_22 rfl hl (by decide) rfl (fun ls hl => ?_)
    refine lv_bipush (v := nI 9) hx hb dX7_readTenths_23 (by decide) ?_
    refine lv_iload_n hx hb dX7_readTenths_25 rfl (lv_at hl 2 rfl) ?_
    refine z_min Z hl.1 zm244 zm245 zm40 zm246 (Nat.le_of_ble_eq_true rfl) (Nat.le_of_ble_eq_true rfl) (Nat.zero_le _) (Nat.zero_le _) dX7_readTenths_26 ?_
    refine z_top (y := if (nI l9) < 9 then (nI l9) else 9) rfl ?_
    refine z_top (y := nI (if l9 < 9 then l9 else 9)) (zmin9 l9 (by omega)) ?_
    refine lv_istore (lv' := [(4, .int (nI (if l9 < 9 then l9 else 9))), (3, .int (nI (l9 - 9 * (3 - k)))), (2, .int (nI k)), (1, .int (nI l9)), (0, .ref tx)]) hx hb dX7_readTenths_29 hl (by decide) rfl (fun ls hl => ?_)
    refine lv_aload_n hx hb dX7_readTenths_31 rfl (lv_at hl 4 rfl) ?_
    refine z_get (ci := 7) (v := .ref tt) Z zin7 hP 0 rfl rfl 1 (by decide) zm57 rfl rfl dX7_readTenths_32 ?_
    refine lv_iload_n hx hb dX7_readTenths_35 rfl (lv_at hl 2 rfl) ?_
    refine lv_aload_n hx hb dX7_readTenths_36 rfl (lv_at hl 4 rfl) ?_
    refine lv_iconst (v := nI 2) hx hb dX7_readTenths_37 (by decide) ?_
    refine lv_iload hx hb dX7_readTenths_38 (lv_at hl 0 rfl) ?_
    refine lv_ishl hx hb dX7_readTenths_40 ?_
    refine z_top (y := (2 : Int32) <<< ((nI (if l9 < 9 then l9 else 9)) &&& 31)) rfl ?_
    refine lv_iconst (v := nI 1) hx hb dX7_readTenths_41 (by decide) ?_
    refine lv_iload_n hx hb dX7_readTenths_42 rfl (lv_at hl 1 rfl) ?_
    refine lv_ishl hx hb dX7_readTenths_43 ?_
    refine z_top (y := (1 : Int32) <<< ((nI (l9 - 9 * (3 - k))) &&& 31)) rfl ?_
    refine lv_isub hx hb dX7_readTenths_44 ?_
    refine z_top (y := ((2 : Int32) <<< ((nI (if l9 < 9 then l9 else 9)) &&& 31)) - ((1 : Int32) <<< ((nI (l9 - 9 * (3 - k))) &&& 31))) rfl ?_
    refine z_callVi (As := [.int (((2 : Int32) <<< ((nI (if l9 < 9 then l9 else 9)) &&& 31)) - ((1 : Int32) <<< ((nI (l9 - 9 * (3 - k))) &&& 31)))]) (rest := [.int (nI k), .ref tt]) (ci := 7) (k0 := 0) Z hP hD hS hl.1 (zc_X7_figure l D cI cZ tx tb tt len bf oq ap (jq + k) (((2 : Int32) <<< ((nI (if l9 < 9 then l9 else 9)) &&& 31)) - ((1 : Int32) <<< ((nI (l9 - 9 * (3 - k))) &&& 31))) (by omega) (by intro hz; have h3 := hv5_2 hz; rw [show ap + (jq + k) = ap + jq + k by omega, hoT k (by omega)]; exact zok_T h3.1 h3.2 (by omega) (by omega)) (by omega)) zm235 zm236 zm2 zm31 zm237 ⟨rfl, zd_X7_figure⟩ ⟨Nat.le_of_ble_eq_true rfl, Nat.le_of_ble_eq_true rfl⟩ ⟨Nat.zero_le _, Nat.zero_le _⟩ [0, 1] rfl (by decide) rfl rfl rfl (fun _ => rfl) rfl (Nat.le_of_ble_eq_true rfl) rfl dX7_readTenths_45 (fun r_5 u H locs h_6 hP hD hS => ?_)
    have hP : va_P D vwCl [(tx, .inr (7, [.ref tb, .ref tt, .int (nI len), .int (nI (ap + zcq oq ((jq + k) + 1))), .int (zft ap (zcq oq ((jq + k) + 1)) ((jq + k) + 1))])), (tb, .inl (cI, 64, .inl bf)), (tt, .inl (cI, 4, .inl te9))] H := hP
    have hD : va_D A [(tx, .inr (7, [.ref tb, .ref tt, .int (nI len), .int (nI (ap + zcq oq ((jq + k) + 1))), .int (zft ap (zcq oq ((jq + k) + 1)) ((jq + k) + 1))])), (tb, .inl (cI, 64, .inl bf)), (tt, .inl (cI, 4, .inl te9))] := hD
    have h_6 : r_5 = nI (zvd oq bf ap (jq + k)) := h_6
    subst h_6
    refine z_iast (n := 4) (f := te9) (j := k) (x := nI (zvd oq bf ap (jq + k))) Z hP hD hS 2 rfl (by omega) (by decide) dX7_readTenths_48 (fun H locs hP hD hS => ?_)
    have hP : va_P D vwCl [(tx, .inr (7, [.ref tb, .ref tt, .int (nI len), .int (nI (ap + zcq oq ((jq + k) + 1))), .int (zft ap (zcq oq ((jq + k) + 1)) ((jq + k) + 1))])), (tb, .inl (cI, 64, .inl bf)), (tt, .inl (cI, 4, .inl (upd te9 k (nI (zvd oq bf ap (jq + k))))))] H := hP
    have hD : va_D A [(tx, .inr (7, [.ref tb, .ref tt, .int (nI len), .int (nI (ap + zcq oq ((jq + k) + 1))), .int (zft ap (zcq oq ((jq + k) + 1)) ((jq + k) + 1))])), (tb, .inl (cI, 64, .inl bf)), (tt, .inl (cI, 4, .inl (upd te9 k (nI (zvd oq bf ap (jq + k))))))] := hD
    refine lv_iload_n hx hb dX7_readTenths_49 rfl (lv_at hl 3 rfl) ?_
    refine lv_aload_n hx hb dX7_readTenths_50 rfl (lv_at hl 4 rfl) ?_
    refine z_get (ci := 7) (v := .ref tt) Z zin7 hP 0 rfl rfl 1 (by decide) zm57 rfl rfl dX7_readTenths_51 ?_
    refine lv_iload_n hx hb dX7_readTenths_54 rfl (lv_at hl 2 rfl) ?_
    refine z_iald (n := 4) (f := upd te9 k (nI (zvd oq bf ap (jq + k)))) (j := k) Z hP 2 rfl (by omega) (by decide) dX7_readTenths_55 ?_
    refine z_top (y := nI (zvd oq bf ap (jq + k))) (pk_us) ?_
    refine lv_isub hx hb dX7_readTenths_56 ?_
    refine z_top (y := nI (l9 - (zvd oq bf ap (jq + k)))) (z_sub' (by omega)) ?_
    refine lv_istore_n (lv' := [(1, .int (nI (l9 - (zvd oq bf ap (jq + k))))), (4, .int (nI (if l9 < 9 then l9 else 9))), (3, .int (nI (l9 - 9 * (3 - k)))), (2, .int (nI k)), (0, .ref tx)]) hx hb dX7_readTenths_57 rfl hl (by decide) rfl (fun ls hl => ?_)
    refine lv_iinc (v := nI (k + 1)) (lv' := [(2, .int (nI (k + 1))), (1, .int (nI (l9 - (zvd oq bf ap (jq + k))))), (4, .int (nI (if l9 < 9 then l9 else 9))), (3, .int (nI (l9 - 9 * (3 - k)))), (0, .ref tx)]) hx hb dX7_readTenths_58 hl (k := 3) rfl (z_inc _ 1) (by decide) rfl (fun ls hl => ?_)
    refine lv_goto (tgt := 5) hx hb dX7_readTenths_61 (by decide) ?_
    have e_7 : nI (ap + zcq oq ((jq + k) + 1)) = nI (ap + zcq oq (jq + (k + 1))) := by first | rfl | exact congrArg nI (by omega)
    have hP : va_P D vwCl [(tx, .inr (7, [.ref tb, .ref tt, .int (nI len), .int (nI (ap + zcq oq (jq + (k + 1)))), .int (zft ap (zcq oq ((jq + k) + 1)) ((jq + k) + 1))])), (tb, .inl (cI, 64, .inl bf)), (tt, .inl (cI, 4, .inl (upd te9 k (nI (zvd oq bf ap (jq + k))))))] H := Eq.subst (motive := fun zz_ => va_P D vwCl [(tx, .inr (7, [.ref tb, .ref tt, .int (nI len), .int zz_, .int (zft ap (zcq oq ((jq + k) + 1)) ((jq + k) + 1))])), (tb, .inl (cI, 64, .inl bf)), (tt, .inl (cI, 4, .inl (upd te9 k (nI (zvd oq bf ap (jq + k))))))] H) e_7 hP
    have e_8 : zft ap (zcq oq ((jq + k) + 1)) ((jq + k) + 1) = zft ap (zcq oq (jq + (k + 1))) (jq + (k + 1)) := by first | rfl | exact congrArg nI (by omega)
    have hP : va_P D vwCl [(tx, .inr (7, [.ref tb, .ref tt, .int (nI len), .int (nI (ap + zcq oq (jq + (k + 1)))), .int (zft ap (zcq oq (jq + (k + 1))) (jq + (k + 1)))])), (tb, .inl (cI, 64, .inl bf)), (tt, .inl (cI, 4, .inl (upd te9 k (nI (zvd oq bf ap (jq + k))))))] H := Eq.subst (motive := fun zz_ => va_P D vwCl [(tx, .inr (7, [.ref tb, .ref tt, .int (nI len), .int (nI (ap + zcq oq (jq + (k + 1)))), .int zz_])), (tb, .inl (cI, 64, .inl bf)), (tt, .inl (cI, 4, .inl (upd te9 k (nI (zvd oq bf ap (jq + k))))))] H) e_8 hP
    have hD : va_D A [(tx, .inr (7, [.ref tb, .ref tt, .int (nI len), .int (nI (ap + zcq oq (jq + (k + 1)))), .int (zft ap (zcq oq (jq + (k + 1))) (jq + (k + 1)))])), (tb, .inl (cI, 64, .inl bf)), (tt, .inl (cI, 4, .inl (upd te9 k (nI (zvd oq bf ap (jq + k))))))] := zD_of hD rfl
    have hl : lv_has ls 5 [(2, .int (nI (k + 1))), (1, .int (nI (l9 - (zvd oq bf ap (jq + k))))), (0, .ref tx)] := lv_sub hl [0, 1, 4] rfl
    exact ih_1 (k + 1, l9 - (zvd oq bf ap (jq + k)), upd te9 k (nI (zvd oq bf ap (jq + k)))) _ _ _ (by omega) ⟨hP, hD, hS, hl, (by first | omega | exact Nat.le_trans (Nat.sub_le _ _) hv5_1 | exact fun z => ⟨(hvd.2 z).1, (hvd.2 z).2.1⟩ | (exact fun z => zcpr_s (hv5_3 (zcq_i z).1) (congrArg nI (hvd.2 z).2.2))), (by first | omega | exact Nat.le_trans (Nat.sub_le _ _) hv5_1 | exact fun z => ⟨(hvd.2 z).1, (hvd.2 z).2.1⟩ | (exact fun z => zcpr_s (hv5_3 (zcq_i z).1) (congrArg nI (hvd.2 z).2.2))), (by first | omega | exact Nat.le_trans (Nat.sub_le _ _) hv5_1 | exact fun z => ⟨(hvd.2 z).1, (hvd.2 z).2.1⟩ | (exact fun z => zcpr_s (hv5_3 (zcq_i z).1) (congrArg nI (hvd.2 z).2.2))), (by first | omega | exact Nat.le_trans (Nat.sub_le _ _) hv5_1 | exact fun z => ⟨(hvd.2 z).1, (hvd.2 z).2.1⟩ | (exact fun z => zcpr_s (hv5_3 (zcq_i z).1) (congrArg nI (hvd.2 z).2.2)))⟩

theorem zlaw_got {bf te : Nat → Int32} {len : Nat} {od : Nat → Int32} (h : zcq (zoL bf len) 7 = 7) (ht : zcq (zoL bf len) 7 = 7 → ∀ y, y < 4 → te y = nI (zdg bf (4 + y))) : nI (zvd (zoL bf len) bf 1 0) = nI (zdg bf 1) ∧ nI (zvd (zoL bf len) bf 1 1) = nI (zdg bf 2) ∧ nI (zvd (zoL bf len) bf 1 2) = nI (zdg bf 3) ∧ ∀ k, k < 4 → va_cpy te od 0 0 4 k = nI (zdg bf (4 + k)) := by
  have ho := zcq_all h
  refine ⟨by rw [zvd_y (j := 0) (ho 1 (by decide)).2], by rw [zvd_y (j := 1) (ho 2 (by decide)).2], by rw [zvd_y (j := 2) (ho 3 (by decide)).2], fun k hk => ?_⟩
  have e : va_cpy te od 0 0 4 k = te k := by
    unfold va_cpy; rw [if_pos ⟨Nat.zero_le _, by omega⟩]; congr 1; omega
  rw [e]; exact ht h k hk
theorem dX7_readLaw_0 : decode cX7_readLaw 0 = .ok (.aload_n 0, 1) := by decide +kernel
theorem dX7_readLaw_1 : decode cX7_readLaw 1 = .ok (.bipush 84, 2) := by decide +kernel
theorem dX7_readLaw_3 : decode cX7_readLaw 3 = .ok (.invokevirtual 46, 3) := by decide +kernel
theorem dX7_readLaw_6 : decode cX7_readLaw 6 = .ok (.ifCond .ne 12, 3) := by decide +kernel
theorem dX7_readLaw_9 : decode cX7_readLaw 9 = .ok (.aload_n 0, 1) := by decide +kernel
theorem dX7_readLaw_10 : decode cX7_readLaw 10 = .ok (.aload_n 0, 1) := by decide +kernel
theorem dX7_readLaw_11 : decode cX7_readLaw 11 = .ok (.getfield 22, 3) := by decide +kernel
theorem dX7_readLaw_14 : decode cX7_readLaw 14 = .ok (.putfield 25, 3) := by decide +kernel
theorem dX7_readLaw_17 : decode cX7_readLaw 17 = .ok (.return_, 1) := by decide +kernel
theorem dX7_readLaw_18 : decode cX7_readLaw 18 = .ok (.aload_n 0, 1) := by decide +kernel
theorem dX7_readLaw_19 : decode cX7_readLaw 19 = .ok (.dup, 1) := by decide +kernel
theorem dX7_readLaw_20 : decode cX7_readLaw 20 = .ok (.getfield 22, 3) := by decide +kernel
theorem dX7_readLaw_23 : decode cX7_readLaw 23 = .ok (.iconst 1, 1) := by decide +kernel
theorem dX7_readLaw_24 : decode cX7_readLaw 24 = .ok (.iadd, 1) := by decide +kernel
theorem dX7_readLaw_25 : decode cX7_readLaw 25 = .ok (.putfield 22, 3) := by decide +kernel
theorem dX7_readLaw_28 : decode cX7_readLaw 28 = .ok (.aload_n 1, 1) := by decide +kernel
theorem dX7_readLaw_29 : decode cX7_readLaw 29 = .ok (.aload_n 0, 1) := by decide +kernel
theorem dX7_readLaw_30 : decode cX7_readLaw 30 = .ok (.sipush 1023, 3) := by decide +kernel
theorem dX7_readLaw_33 : decode cX7_readLaw 33 = .ok (.invokevirtual 50, 3) := by decide +kernel
theorem dX7_readLaw_36 : decode cX7_readLaw 36 = .ok (.putfield 54, 3) := by decide +kernel
theorem dX7_readLaw_39 : decode cX7_readLaw 39 = .ok (.aload_n 1, 1) := by decide +kernel
theorem dX7_readLaw_40 : decode cX7_readLaw 40 = .ok (.aload_n 0, 1) := by decide +kernel
theorem dX7_readLaw_41 : decode cX7_readLaw 41 = .ok (.sipush 1023, 3) := by decide +kernel
theorem dX7_readLaw_44 : decode cX7_readLaw 44 = .ok (.invokevirtual 50, 3) := by decide +kernel
theorem dX7_readLaw_47 : decode cX7_readLaw 47 = .ok (.putfield 57, 3) := by decide +kernel
theorem dX7_readLaw_50 : decode cX7_readLaw 50 = .ok (.aload_n 1, 1) := by decide +kernel
theorem dX7_readLaw_51 : decode cX7_readLaw 51 = .ok (.aload_n 0, 1) := by decide +kernel
theorem dX7_readLaw_52 : decode cX7_readLaw 52 = .ok (.sipush 1023, 3) := by decide +kernel
theorem dX7_readLaw_55 : decode cX7_readLaw 55 = .ok (.invokevirtual 50, 3) := by decide +kernel
theorem dX7_readLaw_58 : decode cX7_readLaw 58 = .ok (.putfield 60, 3) := by decide +kernel
theorem dX7_readLaw_61 : decode cX7_readLaw 61 = .ok (.aload_n 0, 1) := by decide +kernel
theorem dX7_readLaw_62 : decode cX7_readLaw 62 = .ok (.invokevirtual 63, 3) := by decide +kernel
theorem dX7_readLaw_65 : decode cX7_readLaw 65 = .ok (.iconst 0, 1) := by decide +kernel
theorem dX7_readLaw_66 : decode cX7_readLaw 66 = .ok (.istore_n 2, 1) := by decide +kernel
theorem dX7_readLaw_67 : decode cX7_readLaw 67 = .ok (.iload_n 2, 1) := by decide +kernel
theorem dX7_readLaw_68 : decode cX7_readLaw 68 = .ok (.iconst 4, 1) := by decide +kernel
theorem dX7_readLaw_69 : decode cX7_readLaw 69 = .ok (.if_icmp .ge 21, 3) := by decide +kernel
theorem dX7_readLaw_72 : decode cX7_readLaw 72 = .ok (.aload_n 1, 1) := by decide +kernel
theorem dX7_readLaw_73 : decode cX7_readLaw 73 = .ok (.getfield 66, 3) := by decide +kernel
theorem dX7_readLaw_76 : decode cX7_readLaw 76 = .ok (.iload_n 2, 1) := by decide +kernel
theorem dX7_readLaw_77 : decode cX7_readLaw 77 = .ok (.aload_n 0, 1) := by decide +kernel
theorem dX7_readLaw_78 : decode cX7_readLaw 78 = .ok (.getfield 15, 3) := by decide +kernel
theorem dX7_readLaw_81 : decode cX7_readLaw 81 = .ok (.iload_n 2, 1) := by decide +kernel
theorem dX7_readLaw_82 : decode cX7_readLaw 82 = .ok (.iaload, 1) := by decide +kernel
theorem dX7_readLaw_83 : decode cX7_readLaw 83 = .ok (.iastore, 1) := by decide +kernel
theorem dX7_readLaw_84 : decode cX7_readLaw 84 = .ok (.iinc 2 1, 3) := by decide +kernel
theorem dX7_readLaw_87 : decode cX7_readLaw 87 = .ok (.goto (-20), 3) := by decide +kernel
theorem dX7_readLaw_90 : decode cX7_readLaw 90 = .ok (.return_, 1) := by decide +kernel
theorem zd_X7_readLaw : yX7_readLaw.cls ≠ "java/lang/invoke/MethodHandle" ∧ yX7_readLaw.cls ≠ "java/lang/invoke/VarHandle" ∧ (parseMethodDescriptor yX7_readLaw.desc).map (fun d => d.parameters.length) = some 1 := by decide +kernel
set_option maxHeartbeats 4000000 in
set_option maxRecDepth 100000 in
theorem zc_X7_readLaw (l : Launch) (D : va_G) (cI cZ : ClassId) (tx : Nat) (tb : Nat) (tt : Nat) (len : Nat) (bf : Nat → Int32) (r : Nat) (ro : Nat) (rn : Nat) (rr : Nat) (rt : Int32) (fr : Int32) (pr : Int32) (n : Nat) (m : Nat) (te : Nat → Int32) (od : Nat → Int32) (hlen : len ≤ 64) : zV l yX7_readLaw cX7_readLaw 3 2 46 D cI cZ [.ref tx, .ref r] [(tx, .inr (7, [.ref tb, .ref tt, .int (nI len), .int (nI 0), .int (-9)])), (tb, .inl (cI, 64, .inl bf)), (tt, .inl (cI, 4, .inl te)), (r, .inr (3, [.ref ro, .ref rn, .ref rr, .int rt, .int fr, .int pr, .int (nI n), .int (nI m)])), (ro, .inl (cI, 4, .inl od))] (fun (u : (Nat → Int32) × Int32 × Int32 × Int32 × (Nat → Int32)) => zlw bf len → (zcq (zoL bf len) 7) = 7 → u.2.1 = nI (zdg bf 1) ∧ u.2.2.1 = nI (zdg bf 2) ∧ u.2.2.2.1 = nI (zdg bf 3) ∧ ∀ k, k < 4 → u.2.2.2.2 k = nI (zdg bf (4 + k))) (fun (u : (Nat → Int32) × Int32 × Int32 × Int32 × (Nat → Int32)) => [(tx, .inr (7, [.ref tb, .ref tt, .int (nI len), .int (nI (if zlw bf len then 1 + (zcq (zoL bf len) 7) else 0)), .int (if zlw bf len then zft 1 (zcq (zoL bf len) 7) 7 else nI 0)])), (tb, .inl (cI, 64, .inl bf)), (tt, .inl (cI, 4, .inl u.1)), (r, .inr (3, [.ref ro, .ref rn, .ref rr, .int u.2.1, .int u.2.2.1, .int u.2.2.2.1, .int (nI n), .int (nI m)])), (ro, .inl (cI, 4, .inl u.2.2.2.2))]) := by
  refine zV_of (by decide) (Nat.le_of_ble_eq_true rfl) ?_
  intro pP eE sS mM aA bB mT cC A ls Z hP hD hS hl
  have hx := Z.1
  have hb := Z.2.1
  have hown := Z.2.2.2.2.2.1
  have hts := Z.2.2.2.2.1
  have Z : zAt pP sS mM aA mT cC D cI cZ A "SurpriseTax$Text" cX7_readLaw 3 none := Z
  have hl : lv_has ls 3 [(0, .ref tx), (1, .ref r)] := hl
  obtain ⟨H, hH⟩ : ∃ H, H = sS.heap := ⟨_, rfl⟩
  have hP : va_P D vwCl [(tx, .inr (7, [.ref tb, .ref tt, .int (nI len), .int (nI 0), .int (-9)])), (tb, .inl (cI, 64, .inl bf)), (tt, .inl (cI, 4, .inl te)), (r, .inr (3, [.ref ro, .ref rn, .ref rr, .int rt, .int fr, .int pr, .int (nI n), .int (nI m)])), (ro, .inl (cI, 4, .inl od))] H := by rw [hH]; exact hP
  have hS : va_S A sS.heap H [] := by rw [hH]; exact hS
  rw [← hH]
  clear hH
  obtain ⟨locs, hlo⟩ : ∃ q : List Loc, q = [] := ⟨_, rfl⟩
  rw [← hlo] at hS ⊢
  clear hlo
  refine lv_aload_n hx hb dX7_readLaw_0 rfl (lv_at hl 0 rfl) ?_
  refine lv_bipush (v := nI 84) hx hb dX7_readLaw_1 (by decide) ?_
  refine z_callVi (As := [.int (nI 84)]) (rest := []) (ci := 7) (k0 := 0) Z hP hD hS hl.1 (zc_X7_comes l D cI cZ tx tb tt len 0 (-9) bf (nI 84) (by omega) (by omega)) zm232 zm233 zm1 zm31 zm234 ⟨rfl, zd_X7_comes⟩ ⟨Nat.le_of_ble_eq_true rfl, Nat.le_of_ble_eq_true rfl⟩ ⟨Nat.zero_le _, Nat.zero_le _⟩ [0, 1] rfl (by decide) rfl rfl rfl (fun _ => rfl) rfl (Nat.le_of_ble_eq_true rfl) rfl dX7_readLaw_3 (fun r_1 u H locs h_2 hP hD hS => ?_)
  have hP : va_P D vwCl [(tx, .inr (7, [.ref tb, .ref tt, .int (nI len), .int (nI 0), .int (-9)])), (tb, .inl (cI, 64, .inl bf)), (tt, .inl (cI, 4, .inl te)), (r, .inr (3, [.ref ro, .ref rn, .ref rr, .int rt, .int fr, .int pr, .int (nI n), .int (nI m)])), (ro, .inl (cI, 4, .inl od))] H := hP
  have hD : va_D A [(tx, .inr (7, [.ref tb, .ref tt, .int (nI len), .int (nI 0), .int (-9)])), (tb, .inl (cI, 64, .inl bf)), (tt, .inl (cI, 4, .inl te)), (r, .inr (3, [.ref ro, .ref rn, .ref rr, .int rt, .int fr, .int pr, .int (nI n), .int (nI m)])), (ro, .inl (cI, 4, .inl od))] := hD
  have h_2 : r_1 = if 0 < len ∧ bf 0 = (nI 84) then 1 else 0 := h_2
  subst h_2
  refine lv_if_ne (tgt := 18) hx hb dX7_readLaw_6 (by decide) (fun c_3 => ?_) (fun c_3 => ?_)
  · have c_3 := zb1 c_3
    have hw : zlw bf len := c_3
    refine lv_aload_n hx hb dX7_readLaw_18 rfl (lv_at hl 0 rfl) ?_
    refine lv_dup hx hb dX7_readLaw_19 rfl ?_
    refine z_get (ci := 7) (v := .int (nI 0)) Z zin7 hP 0 rfl rfl 3 (by decide) zm59 rfl rfl dX7_readLaw_20 ?_
    refine lv_iconst (v := nI 1) hx hb dX7_readLaw_23 (by decide) ?_
    refine lv_iadd hx hb dX7_readLaw_24 ?_
    refine z_top (y := nI 1) (z_add _ _) ?_
    refine z_put (ci := 7) (v := .int (nI 1)) Z zin7 tyX7 tyX7_ok nmX7 hP hD hS 0 rfl rfl 3 (by decide) zm59 rfl rfl rfl rfl (Nat.le_of_ble_eq_true rfl) dX7_readLaw_25 (fun H locs hP hD hS => ?_)
    have hP : va_P D vwCl [(tx, .inr (7, [.ref tb, .ref tt, .int (nI len), .int (nI 1), .int (-9)])), (tb, .inl (cI, 64, .inl bf)), (tt, .inl (cI, 4, .inl te)), (r, .inr (3, [.ref ro, .ref rn, .ref rr, .int rt, .int fr, .int pr, .int (nI n), .int (nI m)])), (ro, .inl (cI, 4, .inl od))] H := hP
    have hD : va_D A [(tx, .inr (7, [.ref tb, .ref tt, .int (nI len), .int (nI 1), .int (-9)])), (tb, .inl (cI, 64, .inl bf)), (tt, .inl (cI, 4, .inl te)), (r, .inr (3, [.ref ro, .ref rn, .ref rr, .int rt, .int fr, .int pr, .int (nI n), .int (nI m)])), (ro, .inl (cI, 4, .inl od))] := hD
    have e_4 : nI 1 = nI (1 + zcq (zoL bf len) 0) := by rfl
    have hP : va_P D vwCl [(tx, .inr (7, [.ref tb, .ref tt, .int (nI len), .int (nI (1 + zcq (zoL bf len) 0)), .int (-9)])), (tb, .inl (cI, 64, .inl bf)), (tt, .inl (cI, 4, .inl te)), (r, .inr (3, [.ref ro, .ref rn, .ref rr, .int rt, .int fr, .int pr, .int (nI n), .int (nI m)])), (ro, .inl (cI, 4, .inl od))] H := Eq.subst (motive := fun zz_ => va_P D vwCl [(tx, .inr (7, [.ref tb, .ref tt, .int (nI len), .int zz_, .int (-9)])), (tb, .inl (cI, 64, .inl bf)), (tt, .inl (cI, 4, .inl te)), (r, .inr (3, [.ref ro, .ref rn, .ref rr, .int rt, .int fr, .int pr, .int (nI n), .int (nI m)])), (ro, .inl (cI, 4, .inl od))] H) e_4 hP
    have hD : va_D A [(tx, .inr (7, [.ref tb, .ref tt, .int (nI len), .int (nI (1 + zcq (zoL bf len) 0)), .int (-9)])), (tb, .inl (cI, 64, .inl bf)), (tt, .inl (cI, 4, .inl te)), (r, .inr (3, [.ref ro, .ref rn, .ref rr, .int rt, .int fr, .int pr, .int (nI n), .int (nI m)])), (ro, .inl (cI, 4, .inl od))] := zD_of hD rfl
    have e_5 : -9 = zft 1 (zcq (zoL bf len) 0) 0 := by rfl
    have hP : va_P D vwCl [(tx, .inr (7, [.ref tb, .ref tt, .int (nI len), .int (nI (1 + zcq (zoL bf len) 0)), .int (zft 1 (zcq (zoL bf len) 0) 0)])), (tb, .inl (cI, 64, .inl bf)), (tt, .inl (cI, 4, .inl te)), (r, .inr (3, [.ref ro, .ref rn, .ref rr, .int rt, .int fr, .int pr, .int (nI n), .int (nI m)])), (ro, .inl (cI, 4, .inl od))] H := Eq.subst (motive := fun zz_ => va_P D vwCl [(tx, .inr (7, [.ref tb, .ref tt, .int (nI len), .int (nI (1 + zcq (zoL bf len) 0)), .int zz_])), (tb, .inl (cI, 64, .inl bf)), (tt, .inl (cI, 4, .inl te)), (r, .inr (3, [.ref ro, .ref rn, .ref rr, .int rt, .int fr, .int pr, .int (nI n), .int (nI m)])), (ro, .inl (cI, 4, .inl od))] H) e_5 hP
    have hD : va_D A [(tx, .inr (7, [.ref tb, .ref tt, .int (nI len), .int (nI (1 + zcq (zoL bf len) 0)), .int (zft 1 (zcq (zoL bf len) 0) 0)])), (tb, .inl (cI, 64, .inl bf)), (tt, .inl (cI, 4, .inl te)), (r, .inr (3, [.ref ro, .ref rn, .ref rr, .int rt, .int fr, .int pr, .int (nI n), .int (nI m)])), (ro, .inl (cI, 4, .inl od))] := zD_of hD rfl
    refine lv_aload_n hx hb dX7_readLaw_28 rfl (lv_at hl 1 rfl) ?_
    refine lv_aload_n hx hb dX7_readLaw_29 rfl (lv_at hl 0 rfl) ?_
    refine lv_sipush (v := nI 1023) hx hb dX7_readLaw_30 (by decide) ?_
    refine z_callVi (As := [.int (nI 1023)]) (rest := [.ref r]) (ci := 7) (k0 := 0) Z hP hD hS hl.1 (zc_X7_figure l D cI cZ tx tb tt len bf (zoL bf len) 1 0 (nI 1023) (by first | omega | decide) (by intro _; exact zok_any) (by first | omega | decide)) zm235 zm236 zm2 zm31 zm237 ⟨rfl, zd_X7_figure⟩ ⟨Nat.le_of_ble_eq_true rfl, Nat.le_of_ble_eq_true rfl⟩ ⟨Nat.zero_le _, Nat.zero_le _⟩ [0, 1] rfl (by decide) rfl rfl rfl (fun _ => rfl) rfl (Nat.le_of_ble_eq_true rfl) rfl dX7_readLaw_33 (fun r_6 u H locs h_7 hP hD hS => ?_)
    have hP : va_P D vwCl [(tx, .inr (7, [.ref tb, .ref tt, .int (nI len), .int (nI (1 + zcq (zoL bf len) 1)), .int (zft 1 (zcq (zoL bf len) 1) 1)])), (tb, .inl (cI, 64, .inl bf)), (tt, .inl (cI, 4, .inl te)), (r, .inr (3, [.ref ro, .ref rn, .ref rr, .int rt, .int fr, .int pr, .int (nI n), .int (nI m)])), (ro, .inl (cI, 4, .inl od))] H := hP
    have hD : va_D A [(tx, .inr (7, [.ref tb, .ref tt, .int (nI len), .int (nI (1 + zcq (zoL bf len) 1)), .int (zft 1 (zcq (zoL bf len) 1) 1)])), (tb, .inl (cI, 64, .inl bf)), (tt, .inl (cI, 4, .inl te)), (r, .inr (3, [.ref ro, .ref rn, .ref rr, .int rt, .int fr, .int pr, .int (nI n), .int (nI m)])), (ro, .inl (cI, 4, .inl od))] := hD
    have h_7 : r_6 = nI (zvd (zoL bf len) bf 1 0) := h_7
    subst h_7
    refine z_putN (ci := 3) (v := .int (nI (zvd (zoL bf len) bf 1 0))) Z zin3 tyX3 tyX3_ok nmX3 hP hD hS 3 rfl rfl 3 (by decide) zn8 rfl rfl rfl rfl (Nat.le_of_ble_eq_true rfl) dX7_readLaw_36 (fun H locs hP hD hS => ?_)
    have hP : va_P D vwCl [(tx, .inr (7, [.ref tb, .ref tt, .int (nI len), .int (nI (1 + zcq (zoL bf len) 1)), .int (zft 1 (zcq (zoL bf len) 1) 1)])), (tb, .inl (cI, 64, .inl bf)), (tt, .inl (cI, 4, .inl te)), (r, .inr (3, [.ref ro, .ref rn, .ref rr, .int (nI (zvd (zoL bf len) bf 1 0)), .int fr, .int pr, .int (nI n), .int (nI m)])), (ro, .inl (cI, 4, .inl od))] H := hP
    have hD : va_D A [(tx, .inr (7, [.ref tb, .ref tt, .int (nI len), .int (nI (1 + zcq (zoL bf len) 1)), .int (zft 1 (zcq (zoL bf len) 1) 1)])), (tb, .inl (cI, 64, .inl bf)), (tt, .inl (cI, 4, .inl te)), (r, .inr (3, [.ref ro, .ref rn, .ref rr, .int (nI (zvd (zoL bf len) bf 1 0)), .int fr, .int pr, .int (nI n), .int (nI m)])), (ro, .inl (cI, 4, .inl od))] := hD
    refine lv_aload_n hx hb dX7_readLaw_39 rfl (lv_at hl 1 rfl) ?_
    refine lv_aload_n hx hb dX7_readLaw_40 rfl (lv_at hl 0 rfl) ?_
    refine lv_sipush (v := nI 1023) hx hb dX7_readLaw_41 (by decide) ?_
    refine z_callVi (As := [.int (nI 1023)]) (rest := [.ref r]) (ci := 7) (k0 := 0) Z hP hD hS hl.1 (zc_X7_figure l D cI cZ tx tb tt len bf (zoL bf len) 1 1 (nI 1023) (by first | omega | decide) (by intro _; exact zok_any) (by first | omega | decide)) zm235 zm236 zm2 zm31 zm237 ⟨rfl, zd_X7_figure⟩ ⟨Nat.le_of_ble_eq_true rfl, Nat.le_of_ble_eq_true rfl⟩ ⟨Nat.zero_le _, Nat.zero_le _⟩ [0, 1] rfl (by decide) rfl rfl rfl (fun _ => rfl) rfl (Nat.le_of_ble_eq_true rfl) rfl dX7_readLaw_44 (fun r_8 u H locs h_9 hP hD hS => ?_)
    have hP : va_P D vwCl [(tx, .inr (7, [.ref tb, .ref tt, .int (nI len), .int (nI (1 + zcq (zoL bf len) 2)), .int (zft 1 (zcq (zoL bf len) 2) 2)])), (tb, .inl (cI, 64, .inl bf)), (tt, .inl (cI, 4, .inl te)), (r, .inr (3, [.ref ro, .ref rn, .ref rr, .int (nI (zvd (zoL bf len) bf 1 0)), .int fr, .int pr, .int (nI n), .int (nI m)])), (ro, .inl (cI, 4, .inl od))] H := hP
    have hD : va_D A [(tx, .inr (7, [.ref tb, .ref tt, .int (nI len), .int (nI (1 + zcq (zoL bf len) 2)), .int (zft 1 (zcq (zoL bf len) 2) 2)])), (tb, .inl (cI, 64, .inl bf)), (tt, .inl (cI, 4, .inl te)), (r, .inr (3, [.ref ro, .ref rn, .ref rr, .int (nI (zvd (zoL bf len) bf 1 0)), .int fr, .int pr, .int (nI n), .int (nI m)])), (ro, .inl (cI, 4, .inl od))] := hD
    have h_9 : r_8 = nI (zvd (zoL bf len) bf 1 1) := h_9
    subst h_9
    refine z_putN (ci := 3) (v := .int (nI (zvd (zoL bf len) bf 1 1))) Z zin3 tyX3 tyX3_ok nmX3 hP hD hS 3 rfl rfl 4 (by decide) zn11 rfl rfl rfl rfl (Nat.le_of_ble_eq_true rfl) dX7_readLaw_47 (fun H locs hP hD hS => ?_)
    have hP : va_P D vwCl [(tx, .inr (7, [.ref tb, .ref tt, .int (nI len), .int (nI (1 + zcq (zoL bf len) 2)), .int (zft 1 (zcq (zoL bf len) 2) 2)])), (tb, .inl (cI, 64, .inl bf)), (tt, .inl (cI, 4, .inl te)), (r, .inr (3, [.ref ro, .ref rn, .ref rr, .int (nI (zvd (zoL bf len) bf 1 0)), .int (nI (zvd (zoL bf len) bf 1 1)), .int pr, .int (nI n), .int (nI m)])), (ro, .inl (cI, 4, .inl od))] H := hP
    have hD : va_D A [(tx, .inr (7, [.ref tb, .ref tt, .int (nI len), .int (nI (1 + zcq (zoL bf len) 2)), .int (zft 1 (zcq (zoL bf len) 2) 2)])), (tb, .inl (cI, 64, .inl bf)), (tt, .inl (cI, 4, .inl te)), (r, .inr (3, [.ref ro, .ref rn, .ref rr, .int (nI (zvd (zoL bf len) bf 1 0)), .int (nI (zvd (zoL bf len) bf 1 1)), .int pr, .int (nI n), .int (nI m)])), (ro, .inl (cI, 4, .inl od))] := hD
    refine lv_aload_n hx hb dX7_readLaw_50 rfl (lv_at hl 1 rfl) ?_
    refine lv_aload_n hx hb dX7_readLaw_51 rfl (lv_at hl 0 rfl) ?_
    refine lv_sipush (v := nI 1023) hx hb dX7_readLaw_52 (by decide) ?_
    refine z_callVi (As := [.int (nI 1023)]) (rest := [.ref r]) (ci := 7) (k0 := 0) Z hP hD hS hl.1 (zc_X7_figure l D cI cZ tx tb tt len bf (zoL bf len) 1 2 (nI 1023) (by first | omega | decide) (by intro _; exact zok_any) (by first | omega | decide)) zm235 zm236 zm2 zm31 zm237 ⟨rfl, zd_X7_figure⟩ ⟨Nat.le_of_ble_eq_true rfl, Nat.le_of_ble_eq_true rfl⟩ ⟨Nat.zero_le _, Nat.zero_le _⟩ [0, 1] rfl (by decide) rfl rfl rfl (fun _ => rfl) rfl (Nat.le_of_ble_eq_true rfl) rfl dX7_readLaw_55 (fun r_10 u H locs h_11 hP hD hS => ?_)
    have hP : va_P D vwCl [(tx, .inr (7, [.ref tb, .ref tt, .int (nI len), .int (nI (1 + zcq (zoL bf len) 3)), .int (zft 1 (zcq (zoL bf len) 3) 3)])), (tb, .inl (cI, 64, .inl bf)), (tt, .inl (cI, 4, .inl te)), (r, .inr (3, [.ref ro, .ref rn, .ref rr, .int (nI (zvd (zoL bf len) bf 1 0)), .int (nI (zvd (zoL bf len) bf 1 1)), .int pr, .int (nI n), .int (nI m)])), (ro, .inl (cI, 4, .inl od))] H := hP
    have hD : va_D A [(tx, .inr (7, [.ref tb, .ref tt, .int (nI len), .int (nI (1 + zcq (zoL bf len) 3)), .int (zft 1 (zcq (zoL bf len) 3) 3)])), (tb, .inl (cI, 64, .inl bf)), (tt, .inl (cI, 4, .inl te)), (r, .inr (3, [.ref ro, .ref rn, .ref rr, .int (nI (zvd (zoL bf len) bf 1 0)), .int (nI (zvd (zoL bf len) bf 1 1)), .int pr, .int (nI n), .int (nI m)])), (ro, .inl (cI, 4, .inl od))] := hD
    have h_11 : r_10 = nI (zvd (zoL bf len) bf 1 2) := h_11
    subst h_11
    refine z_putN (ci := 3) (v := .int (nI (zvd (zoL bf len) bf 1 2))) Z zin3 tyX3 tyX3_ok nmX3 hP hD hS 3 rfl rfl 5 (by decide) zn14 rfl rfl rfl rfl (Nat.le_of_ble_eq_true rfl) dX7_readLaw_58 (fun H locs hP hD hS => ?_)
    have hP : va_P D vwCl [(tx, .inr (7, [.ref tb, .ref tt, .int (nI len), .int (nI (1 + zcq (zoL bf len) 3)), .int (zft 1 (zcq (zoL bf len) 3) 3)])), (tb, .inl (cI, 64, .inl bf)), (tt, .inl (cI, 4, .inl te)), (r, .inr (3, [.ref ro, .ref rn, .ref rr, .int (nI (zvd (zoL bf len) bf 1 0)), .int (nI (zvd (zoL bf len) bf 1 1)), .int (nI (zvd (zoL bf len) bf 1 2)), .int (nI n), .int (nI m)])), (ro, .inl (cI, 4, .inl od))] H := hP
    have hD : va_D A [(tx, .inr (7, [.ref tb, .ref tt, .int (nI len), .int (nI (1 + zcq (zoL bf len) 3)), .int (zft 1 (zcq (zoL bf len) 3) 3)])), (tb, .inl (cI, 64, .inl bf)), (tt, .inl (cI, 4, .inl te)), (r, .inr (3, [.ref ro, .ref rn, .ref rr, .int (nI (zvd (zoL bf len) bf 1 0)), .int (nI (zvd (zoL bf len) bf 1 1)), .int (nI (zvd (zoL bf len) bf 1 2)), .int (nI n), .int (nI m)])), (ro, .inl (cI, 4, .inl od))] := hD
    refine lv_aload_n hx hb dX7_readLaw_61 rfl (lv_at hl 0 rfl) ?_
    refine z_callVv (As := []) (rest := []) (ci := 7) (k0 := 0) Z hP hD hS hl.1 (zc_X7_readTenths l D cI cZ tx tb tt len bf (zoL bf len) 1 3 te (by first | omega | decide) (by exact fun k _ => zoL_T) (by first | omega | decide)) zm238 zm239 zm3 zm31 zm240 ⟨rfl, zd_X7_readTenths⟩ ⟨Nat.le_of_ble_eq_true rfl, Nat.le_of_ble_eq_true rfl⟩ ⟨Nat.zero_le _, Nat.zero_le _⟩ [0, 1, 2] rfl (by decide) rfl rfl rfl (fun _ => rfl) rfl (Nat.le_of_ble_eq_true rfl) rfl dX7_readLaw_62 (fun u H locs h_13 hP hD hS => ?_)
    obtain ⟨te7, rfl⟩ : ∃ z, z = u := ⟨_, rfl⟩
    have hP : va_P D vwCl [(tx, .inr (7, [.ref tb, .ref tt, .int (nI len), .int (nI (1 + zcq (zoL bf len) 7)), .int (zft 1 (zcq (zoL bf len) 7) 7)])), (tb, .inl (cI, 64, .inl bf)), (tt, .inl (cI, 4, .inl te7)), (r, .inr (3, [.ref ro, .ref rn, .ref rr, .int (nI (zvd (zoL bf len) bf 1 0)), .int (nI (zvd (zoL bf len) bf 1 1)), .int (nI (zvd (zoL bf len) bf 1 2)), .int (nI n), .int (nI m)])), (ro, .inl (cI, 4, .inl od))] H := hP
    have hD : va_D A [(tx, .inr (7, [.ref tb, .ref tt, .int (nI len), .int (nI (1 + zcq (zoL bf len) 7)), .int (zft 1 (zcq (zoL bf len) 7) 7)])), (tb, .inl (cI, 64, .inl bf)), (tt, .inl (cI, 4, .inl te7)), (r, .inr (3, [.ref ro, .ref rn, .ref rr, .int (nI (zvd (zoL bf len) bf 1 0)), .int (nI (zvd (zoL bf len) bf 1 1)), .int (nI (zvd (zoL bf len) bf 1 2)), .int (nI n), .int (nI m)])), (ro, .inl (cI, 4, .inl od))] := hD
    have h_13 : zcq (zoL bf len) 7 = 3 + 4 → ∀ y, y < 4 → te7 y = nI (zdg bf (1 + 3 + y)) := h_13
    refine lv_iconst (v := nI 0) hx hb dX7_readLaw_65 (by decide) ?_
    refine lv_istore_n (lv' := [(2, .int (nI 0)), (0, .ref tx), (1, .ref r)]) hx hb dX7_readLaw_66 rfl hl (by decide) rfl (fun ls hl => ?_)
    have e_15 : od = va_cpy te7 od 0 0 0 := by first | rw [zcpyT_0] | rfl
    have hP : va_P D vwCl [(tx, .inr (7, [.ref tb, .ref tt, .int (nI len), .int (nI (1 + zcq (zoL bf len) 7)), .int (zft 1 (zcq (zoL bf len) 7) 7)])), (tb, .inl (cI, 64, .inl bf)), (tt, .inl (cI, 4, .inl te7)), (r, .inr (3, [.ref ro, .ref rn, .ref rr, .int (nI (zvd (zoL bf len) bf 1 0)), .int (nI (zvd (zoL bf len) bf 1 1)), .int (nI (zvd (zoL bf len) bf 1 2)), .int (nI n), .int (nI m)])), (ro, .inl (cI, 4, .inl (va_cpy te7 od 0 0 0)))] H := Eq.subst (motive := fun zz_ => va_P D vwCl [(tx, .inr (7, [.ref tb, .ref tt, .int (nI len), .int (nI (1 + zcq (zoL bf len) 7)), .int (zft 1 (zcq (zoL bf len) 7) 7)])), (tb, .inl (cI, 64, .inl bf)), (tt, .inl (cI, 4, .inl te7)), (r, .inr (3, [.ref ro, .ref rn, .ref rr, .int (nI (zvd (zoL bf len) bf 1 0)), .int (nI (zvd (zoL bf len) bf 1 1)), .int (nI (zvd (zoL bf len) bf 1 2)), .int (nI n), .int (nI m)])), (ro, .inl (cI, 4, .inl zz_))] H) e_15 hP
    have hD : va_D A [(tx, .inr (7, [.ref tb, .ref tt, .int (nI len), .int (nI (1 + zcq (zoL bf len) 7)), .int (zft 1 (zcq (zoL bf len) 7) 7)])), (tb, .inl (cI, 64, .inl bf)), (tt, .inl (cI, 4, .inl te7)), (r, .inr (3, [.ref ro, .ref rn, .ref rr, .int (nI (zvd (zoL bf len) bf 1 0)), .int (nI (zvd (zoL bf len) bf 1 1)), .int (nI (zvd (zoL bf len) bf 1 2)), .int (nI n), .int (nI m)])), (ro, .inl (cI, 4, .inl (va_cpy te7 od 0 0 0)))] := zD_of hD rfl
    have hl : lv_has ls 3 [(2, .int (nI 0)), (0, .ref tx), (1, .ref r)] := lv_sub hl [0, 1, 2] rfl
    refine z_loop (fun k H locs ls => va_P D vwCl [(tx, .inr (7, [.ref tb, .ref tt, .int (nI len), .int (nI (1 + zcq (zoL bf len) 7)), .int (zft 1 (zcq (zoL bf len) 7) 7)])), (tb, .inl (cI, 64, .inl bf)), (tt, .inl (cI, 4, .inl te7)), (r, .inr (3, [.ref ro, .ref rn, .ref rr, .int (nI (zvd (zoL bf len) bf 1 0)), .int (nI (zvd (zoL bf len) bf 1 1)), .int (nI (zvd (zoL bf len) bf 1 2)), .int (nI n), .int (nI m)])), (ro, .inl (cI, 4, .inl (va_cpy te7 od 0 0 k)))] H ∧ va_D A [(tx, .inr (7, [.ref tb, .ref tt, .int (nI len), .int (nI (1 + zcq (zoL bf len) 7)), .int (zft 1 (zcq (zoL bf len) 7) 7)])), (tb, .inl (cI, 64, .inl bf)), (tt, .inl (cI, 4, .inl te7)), (r, .inr (3, [.ref ro, .ref rn, .ref rr, .int (nI (zvd (zoL bf len) bf 1 0)), .int (nI (zvd (zoL bf len) bf 1 1)), .int (nI (zvd (zoL bf len) bf 1 2)), .int (nI n), .int (nI m)])), (ro, .inl (cI, 4, .inl (va_cpy te7 od 0 0 k)))] ∧ va_S A sS.heap H locs ∧ lv_has ls 3 [(2, .int (nI k)), (0, .ref tx), (1, .ref r)]) (4) (lo := 0) (by omega) ⟨hP, hD, hS, hl⟩ (fun k hi_k ih_14 H locs ls hI => ?_)
    obtain ⟨hP, hD, hS, hl⟩ := hI
    have hP : va_P D vwCl [(tx, .inr (7, [.ref tb, .ref tt, .int (nI len), .int (nI (1 + zcq (zoL bf len) 7)), .int (zft 1 (zcq (zoL bf len) 7) 7)])), (tb, .inl (cI, 64, .inl bf)), (tt, .inl (cI, 4, .inl te7)), (r, .inr (3, [.ref ro, .ref rn, .ref rr, .int (nI (zvd (zoL bf len) bf 1 0)), .int (nI (zvd (zoL bf len) bf 1 1)), .int (nI (zvd (zoL bf len) bf 1 2)), .int (nI n), .int (nI m)])), (ro, .inl (cI, 4, .inl (va_cpy te7 od 0 0 k)))] H := hP
    have hD : va_D A [(tx, .inr (7, [.ref tb, .ref tt, .int (nI len), .int (nI (1 + zcq (zoL bf len) 7)), .int (zft 1 (zcq (zoL bf len) 7) 7)])), (tb, .inl (cI, 64, .inl bf)), (tt, .inl (cI, 4, .inl te7)), (r, .inr (3, [.ref ro, .ref rn, .ref rr, .int (nI (zvd (zoL bf len) bf 1 0)), .int (nI (zvd (zoL bf len) bf 1 1)), .int (nI (zvd (zoL bf len) bf 1 2)), .int (nI n), .int (nI m)])), (ro, .inl (cI, 4, .inl (va_cpy te7 od 0 0 k)))] := hD
    have hl : lv_has ls 3 [(2, .int (nI k)), (0, .ref tx), (1, .ref r)] := hl
    refine lv_iload_n hx hb dX7_readLaw_67 rfl (lv_at hl 0 rfl) ?_
    refine lv_iconst (v := nI 4) hx hb dX7_readLaw_68 (by decide) ?_
    refine lv_icmp_ge (tgt := 90) hx hb dX7_readLaw_69 (by decide) (fun c_16 => ?_) (fun c_16 => ?_)
    · have c_16 := zle (i := 4) (j := k) (by decide) (by omega) c_16
      have hE_ : 4 = k := by omega
      subst hE_
      have e_17 : nI (1 + zcq (zoL bf len) 7) = nI (if zlw bf len then 1 + (zcq (zoL bf len) 7) else 0) := by first | rw [if_pos hw] | rw [if_neg hw]
      have hP : va_P D vwCl [(tx, .inr (7, [.ref tb, .ref tt, .int (nI len), .int (nI (if zlw bf len then 1 + (zcq (zoL bf len) 7) else 0)), .int (zft 1 (zcq (zoL bf len) 7) 7)])), (tb, .inl (cI, 64, .inl bf)), (tt, .inl (cI, 4, .inl te7)), (r, .inr (3, [.ref ro, .ref rn, .ref rr, .int (nI (zvd (zoL bf len) bf 1 0)), .int (nI (zvd (zoL bf len) bf 1 1)), .int (nI (zvd (zoL bf len) bf 1 2)), .int (nI n), .int (nI m)])), (ro, .inl (cI, 4, .inl (va_cpy te7 od 0 0 4)))] H := Eq.subst (motive := fun zz_ => va_P D vwCl [(tx, .inr (7, [.ref tb, .ref tt, .int (nI len), .int zz_, .int (zft 1 (zcq (zoL bf len) 7) 7)])), (tb, .inl (cI, 64, .inl bf)), (tt, .inl (cI, 4, .inl te7)), (r, .inr (3, [.ref ro, .ref rn, .ref rr, .int (nI (zvd (zoL bf len) bf 1 0)), .int (nI (zvd (zoL bf len) bf 1 1)), .int (nI (zvd (zoL bf len) bf 1 2)), .int (nI n), .int (nI m)])), (ro, .inl (cI, 4, .inl (va_cpy te7 od 0 0 4)))] H) e_17 hP
      have e_18 : zft 1 (zcq (zoL bf len) 7) 7 = (if zlw bf len then zft 1 (zcq (zoL bf len) 7) 7 else nI 0) := by first | rw [if_pos hw] | rw [if_neg hw]
      have hP : va_P D vwCl [(tx, .inr (7, [.ref tb, .ref tt, .int (nI len), .int (nI (if zlw bf len then 1 + (zcq (zoL bf len) 7) else 0)), .int (if zlw bf len then zft 1 (zcq (zoL bf len) 7) 7 else nI 0)])), (tb, .inl (cI, 64, .inl bf)), (tt, .inl (cI, 4, .inl te7)), (r, .inr (3, [.ref ro, .ref rn, .ref rr, .int (nI (zvd (zoL bf len) bf 1 0)), .int (nI (zvd (zoL bf len) bf 1 1)), .int (nI (zvd (zoL bf len) bf 1 2)), .int (nI n), .int (nI m)])), (ro, .inl (cI, 4, .inl (va_cpy te7 od 0 0 4)))] H := Eq.subst (motive := fun zz_ => va_P D vwCl [(tx, .inr (7, [.ref tb, .ref tt, .int (nI len), .int (nI (if zlw bf len then 1 + (zcq (zoL bf len) 7) else 0)), .int zz_])), (tb, .inl (cI, 64, .inl bf)), (tt, .inl (cI, 4, .inl te7)), (r, .inr (3, [.ref ro, .ref rn, .ref rr, .int (nI (zvd (zoL bf len) bf 1 0)), .int (nI (zvd (zoL bf len) bf 1 1)), .int (nI (zvd (zoL bf len) bf 1 2)), .int (nI n), .int (nI m)])), (ro, .inl (cI, 4, .inl (va_cpy te7 od 0 0 4)))] H) e_18 hP
      have hD : va_D A [(tx, .inr (7, [.ref tb, .ref tt, .int (nI len), .int (nI (if zlw bf len then 1 + (zcq (zoL bf len) 7) else 0)), .int (if zlw bf len then zft 1 (zcq (zoL bf len) 7) 7 else nI 0)])), (tb, .inl (cI, 64, .inl bf)), (tt, .inl (cI, 4, .inl te7)), (r, .inr (3, [.ref ro, .ref rn, .ref rr, .int (nI (zvd (zoL bf len) bf 1 0)), .int (nI (zvd (zoL bf len) bf 1 1)), .int (nI (zvd (zoL bf len) bf 1 2)), .int (nI n), .int (nI m)])), (ro, .inl (cI, 4, .inl (va_cpy te7 od 0 0 4)))] := zD_of hD rfl
      exact z_vret Z (te7, nI (zvd (zoL bf len) bf 1 0), nI (zvd (zoL bf len) bf 1 1), nI (zvd (zoL bf len) bf 1 2), va_cpy te7 od 0 0 4) (by intro _ hz; exact zlaw_got hz (by assumption)) hP hS dX7_readLaw_90
    · have c_16 := znle (i := 4) (j := k) (by decide) (by omega) c_16
      refine lv_aload_n hx hb dX7_readLaw_72 rfl (lv_at hl 2 rfl) ?_
      refine z_getN (ci := 3) (v := .ref ro) Z zin3 hP 3 rfl rfl 0 (by decide) zn4 rfl rfl dX7_readLaw_73 ?_
      refine lv_iload_n hx hb dX7_readLaw_76 rfl (lv_at hl 0 rfl) ?_
      refine lv_aload_n hx hb dX7_readLaw_77 rfl (lv_at hl 1 rfl) ?_
      refine z_get (ci := 7) (v := .ref tt) Z zin7 hP 0 rfl rfl 1 (by decide) zm57 rfl rfl dX7_readLaw_78 ?_
      refine lv_iload_n hx hb dX7_readLaw_81 rfl (lv_at hl 0 rfl) ?_
      refine z_iald (n := 4) (f := te7) (j := k) Z hP 2 rfl (by omega) (by decide) dX7_readLaw_82 ?_
      refine z_iast (n := 4) (f := va_cpy te7 od 0 0 k) (j := k) (x := te7 k) Z hP hD hS 4 rfl (by omega) (by decide) dX7_readLaw_83 (fun H locs hP hD hS => ?_)
      have hP : va_P D vwCl [(tx, .inr (7, [.ref tb, .ref tt, .int (nI len), .int (nI (1 + zcq (zoL bf len) 7)), .int (zft 1 (zcq (zoL bf len) 7) 7)])), (tb, .inl (cI, 64, .inl bf)), (tt, .inl (cI, 4, .inl te7)), (r, .inr (3, [.ref ro, .ref rn, .ref rr, .int (nI (zvd (zoL bf len) bf 1 0)), .int (nI (zvd (zoL bf len) bf 1 1)), .int (nI (zvd (zoL bf len) bf 1 2)), .int (nI n), .int (nI m)])), (ro, .inl (cI, 4, .inl (upd (va_cpy te7 od 0 0 k) k (te7 k))))] H := hP
      have hD : va_D A [(tx, .inr (7, [.ref tb, .ref tt, .int (nI len), .int (nI (1 + zcq (zoL bf len) 7)), .int (zft 1 (zcq (zoL bf len) 7) 7)])), (tb, .inl (cI, 64, .inl bf)), (tt, .inl (cI, 4, .inl te7)), (r, .inr (3, [.ref ro, .ref rn, .ref rr, .int (nI (zvd (zoL bf len) bf 1 0)), .int (nI (zvd (zoL bf len) bf 1 1)), .int (nI (zvd (zoL bf len) bf 1 2)), .int (nI n), .int (nI m)])), (ro, .inl (cI, 4, .inl (upd (va_cpy te7 od 0 0 k) k (te7 k))))] := hD
      refine lv_iinc (v := nI (k + 1)) (lv' := [(2, .int (nI (k + 1))), (0, .ref tx), (1, .ref r)]) hx hb dX7_readLaw_84 hl (k := 0) rfl (z_inc _ 1) (by decide) rfl (fun ls hl => ?_)
      refine lv_goto (tgt := 67) hx hb dX7_readLaw_87 (by decide) ?_
      have e_19 : upd (va_cpy te7 od 0 0 k) k (te7 k) = va_cpy te7 od 0 0 (k + 1) := by first | exact zcpyT_00 _ _ _ | rfl
      have hP : va_P D vwCl [(tx, .inr (7, [.ref tb, .ref tt, .int (nI len), .int (nI (1 + zcq (zoL bf len) 7)), .int (zft 1 (zcq (zoL bf len) 7) 7)])), (tb, .inl (cI, 64, .inl bf)), (tt, .inl (cI, 4, .inl te7)), (r, .inr (3, [.ref ro, .ref rn, .ref rr, .int (nI (zvd (zoL bf len) bf 1 0)), .int (nI (zvd (zoL bf len) bf 1 1)), .int (nI (zvd (zoL bf len) bf 1 2)), .int (nI n), .int (nI m)])), (ro, .inl (cI, 4, .inl (va_cpy te7 od 0 0 (k + 1))))] H := Eq.subst (motive := fun zz_ => va_P D vwCl [(tx, .inr (7, [.ref tb, .ref tt, .int (nI len), .int (nI (1 + zcq (zoL bf len) 7)), .int (zft 1 (zcq (zoL bf len) 7) 7)])), (tb, .inl (cI, 64, .inl bf)), (tt, .inl (cI, 4, .inl te7)), (r, .inr (3, [.ref ro, .ref rn, .ref rr, .int (nI (zvd (zoL bf len) bf 1 0)), .int (nI (zvd (zoL bf len) bf 1 1)), .int (nI (zvd (zoL bf len) bf 1 2)), .int (nI n), .int (nI m)])), (ro, .inl (cI, 4, .inl zz_))] H) e_19 hP
      have hD : va_D A [(tx, .inr (7, [.ref tb, .ref tt, .int (nI len), .int (nI (1 + zcq (zoL bf len) 7)), .int (zft 1 (zcq (zoL bf len) 7) 7)])), (tb, .inl (cI, 64, .inl bf)), (tt, .inl (cI, 4, .inl te7)), (r, .inr (3, [.ref ro, .ref rn, .ref rr, .int (nI (zvd (zoL bf len) bf 1 0)), .int (nI (zvd (zoL bf len) bf 1 1)), .int (nI (zvd (zoL bf len) bf 1 2)), .int (nI n), .int (nI m)])), (ro, .inl (cI, 4, .inl (va_cpy te7 od 0 0 (k + 1))))] := zD_of hD rfl
      have hl : lv_has ls 3 [(2, .int (nI (k + 1))), (0, .ref tx), (1, .ref r)] := lv_sub hl [0, 1, 2] rfl
      exact ih_14 _ _ _ (by omega) ⟨hP, hD, hS, hl⟩
  · have c_3 := zb0 c_3
    have hw : ¬ zlw bf len := c_3
    refine lv_aload_n hx hb dX7_readLaw_9 rfl (lv_at hl 0 rfl) ?_
    refine lv_aload_n hx hb dX7_readLaw_10 rfl (lv_at hl 0 rfl) ?_
    refine z_get (ci := 7) (v := .int (nI 0)) Z zin7 hP 0 rfl rfl 3 (by decide) zm59 rfl rfl dX7_readLaw_11 ?_
    refine z_put (ci := 7) (v := .int (nI 0)) Z zin7 tyX7 tyX7_ok nmX7 hP hD hS 0 rfl rfl 4 (by decide) zm60 rfl rfl rfl rfl (Nat.le_of_ble_eq_true rfl) dX7_readLaw_14 (fun H locs hP hD hS => ?_)
    have hP : va_P D vwCl [(tx, .inr (7, [.ref tb, .ref tt, .int (nI len), .int (nI 0), .int (nI 0)])), (tb, .inl (cI, 64, .inl bf)), (tt, .inl (cI, 4, .inl te)), (r, .inr (3, [.ref ro, .ref rn, .ref rr, .int rt, .int fr, .int pr, .int (nI n), .int (nI m)])), (ro, .inl (cI, 4, .inl od))] H := hP
    have hD : va_D A [(tx, .inr (7, [.ref tb, .ref tt, .int (nI len), .int (nI 0), .int (nI 0)])), (tb, .inl (cI, 64, .inl bf)), (tt, .inl (cI, 4, .inl te)), (r, .inr (3, [.ref ro, .ref rn, .ref rr, .int rt, .int fr, .int pr, .int (nI n), .int (nI m)])), (ro, .inl (cI, 4, .inl od))] := hD
    have e_20 : nI 0 = nI (if zlw bf len then 1 + (zcq (zoL bf len) 7) else 0) := by first | rw [if_pos hw] | rw [if_neg hw]
    have hP : va_P D vwCl [(tx, .inr (7, [.ref tb, .ref tt, .int (nI len), .int (nI (if zlw bf len then 1 + (zcq (zoL bf len) 7) else 0)), .int (nI 0)])), (tb, .inl (cI, 64, .inl bf)), (tt, .inl (cI, 4, .inl te)), (r, .inr (3, [.ref ro, .ref rn, .ref rr, .int rt, .int fr, .int pr, .int (nI n), .int (nI m)])), (ro, .inl (cI, 4, .inl od))] H := Eq.subst (motive := fun zz_ => va_P D vwCl [(tx, .inr (7, [.ref tb, .ref tt, .int (nI len), .int zz_, .int (nI 0)])), (tb, .inl (cI, 64, .inl bf)), (tt, .inl (cI, 4, .inl te)), (r, .inr (3, [.ref ro, .ref rn, .ref rr, .int rt, .int fr, .int pr, .int (nI n), .int (nI m)])), (ro, .inl (cI, 4, .inl od))] H) e_20 hP
    have e_21 : nI 0 = (if zlw bf len then zft 1 (zcq (zoL bf len) 7) 7 else nI 0) := by first | rw [if_pos hw] | rw [if_neg hw]
    have hP : va_P D vwCl [(tx, .inr (7, [.ref tb, .ref tt, .int (nI len), .int (nI (if zlw bf len then 1 + (zcq (zoL bf len) 7) else 0)), .int (if zlw bf len then zft 1 (zcq (zoL bf len) 7) 7 else nI 0)])), (tb, .inl (cI, 64, .inl bf)), (tt, .inl (cI, 4, .inl te)), (r, .inr (3, [.ref ro, .ref rn, .ref rr, .int rt, .int fr, .int pr, .int (nI n), .int (nI m)])), (ro, .inl (cI, 4, .inl od))] H := Eq.subst (motive := fun zz_ => va_P D vwCl [(tx, .inr (7, [.ref tb, .ref tt, .int (nI len), .int (nI (if zlw bf len then 1 + (zcq (zoL bf len) 7) else 0)), .int zz_])), (tb, .inl (cI, 64, .inl bf)), (tt, .inl (cI, 4, .inl te)), (r, .inr (3, [.ref ro, .ref rn, .ref rr, .int rt, .int fr, .int pr, .int (nI n), .int (nI m)])), (ro, .inl (cI, 4, .inl od))] H) e_21 hP
    have hD : va_D A [(tx, .inr (7, [.ref tb, .ref tt, .int (nI len), .int (nI (if zlw bf len then 1 + (zcq (zoL bf len) 7) else 0)), .int (if zlw bf len then zft 1 (zcq (zoL bf len) 7) 7 else nI 0)])), (tb, .inl (cI, 64, .inl bf)), (tt, .inl (cI, 4, .inl te)), (r, .inr (3, [.ref ro, .ref rn, .ref rr, .int rt, .int fr, .int pr, .int (nI n), .int (nI m)])), (ro, .inl (cI, 4, .inl od))] := zD_of hD rfl
    exact z_vret Z (te, rt, fr, pr, od) (by exact fun z => absurd z hw) hP hS dX7_readLaw_17

theorem dX7_readPerson_0 : decode cX7_readPerson 0 = .ok (.aload_n 1, 1) := by decide +kernel
theorem dX7_readPerson_1 : decode cX7_readPerson 1 = .ok (.getfield 69, 3) := by decide +kernel
theorem dX7_readPerson_4 : decode cX7_readPerson 4 = .ok (.istore_n 3, 1) := by decide +kernel
theorem dX7_readPerson_5 : decode cX7_readPerson 5 = .ok (.aload_n 0, 1) := by decide +kernel
theorem dX7_readPerson_6 : decode cX7_readPerson 6 = .ok (.invokevirtual 63, 3) := by decide +kernel
theorem dX7_readPerson_9 : decode cX7_readPerson 9 = .ok (.iconst 0, 1) := by decide +kernel
theorem dX7_readPerson_10 : decode cX7_readPerson 10 = .ok (.istore 4, 2) := by decide +kernel
theorem dX7_readPerson_12 : decode cX7_readPerson 12 = .ok (.iload 4, 2) := by decide +kernel
theorem dX7_readPerson_14 : decode cX7_readPerson 14 = .ok (.iconst 4, 1) := by decide +kernel
theorem dX7_readPerson_15 : decode cX7_readPerson 15 = .ok (.if_icmp .ge 23, 3) := by decide +kernel
theorem dX7_readPerson_18 : decode cX7_readPerson 18 = .ok (.aload_n 2, 1) := by decide +kernel
theorem dX7_readPerson_19 : decode cX7_readPerson 19 = .ok (.iload_n 3, 1) := by decide +kernel
theorem dX7_readPerson_20 : decode cX7_readPerson 20 = .ok (.iload 4, 2) := by decide +kernel
theorem dX7_readPerson_22 : decode cX7_readPerson 22 = .ok (.aload_n 0, 1) := by decide +kernel
theorem dX7_readPerson_23 : decode cX7_readPerson 23 = .ok (.getfield 15, 3) := by decide +kernel
theorem dX7_readPerson_26 : decode cX7_readPerson 26 = .ok (.iload 4, 2) := by decide +kernel
theorem dX7_readPerson_28 : decode cX7_readPerson 28 = .ok (.iaload, 1) := by decide +kernel
theorem dX7_readPerson_29 : decode cX7_readPerson 29 = .ok (.invokevirtual 82, 3) := by decide +kernel
theorem dX7_readPerson_32 : decode cX7_readPerson 32 = .ok (.iinc 4 1, 3) := by decide +kernel
theorem dX7_readPerson_35 : decode cX7_readPerson 35 = .ok (.goto (-23), 3) := by decide +kernel
theorem dX7_readPerson_38 : decode cX7_readPerson 38 = .ok (.aload_n 2, 1) := by decide +kernel
theorem dX7_readPerson_39 : decode cX7_readPerson 39 = .ok (.iload_n 3, 1) := by decide +kernel
theorem dX7_readPerson_40 : decode cX7_readPerson 40 = .ok (.bipush 10, 2) := by decide +kernel
theorem dX7_readPerson_42 : decode cX7_readPerson 42 = .ok (.aload_n 0, 1) := by decide +kernel
theorem dX7_readPerson_43 : decode cX7_readPerson 43 = .ok (.sipush 1023, 3) := by decide +kernel
theorem dX7_readPerson_46 : decode cX7_readPerson 46 = .ok (.invokevirtual 50, 3) := by decide +kernel
theorem dX7_readPerson_49 : decode cX7_readPerson 49 = .ok (.imul, 1) := by decide +kernel
theorem dX7_readPerson_50 : decode cX7_readPerson 50 = .ok (.invokevirtual 86, 3) := by decide +kernel
theorem dX7_readPerson_53 : decode cX7_readPerson 53 = .ok (.aload_n 1, 1) := by decide +kernel
theorem dX7_readPerson_54 : decode cX7_readPerson 54 = .ok (.getfield 90, 3) := by decide +kernel
theorem dX7_readPerson_57 : decode cX7_readPerson 57 = .ok (.iload_n 3, 1) := by decide +kernel
theorem dX7_readPerson_58 : decode cX7_readPerson 58 = .ok (.aload_n 0, 1) := by decide +kernel
theorem dX7_readPerson_59 : decode cX7_readPerson 59 = .ok (.bipush 63, 2) := by decide +kernel
theorem dX7_readPerson_61 : decode cX7_readPerson 61 = .ok (.invokevirtual 50, 3) := by decide +kernel
theorem dX7_readPerson_64 : decode cX7_readPerson 64 = .ok (.iastore, 1) := by decide +kernel
theorem dX7_readPerson_65 : decode cX7_readPerson 65 = .ok (.aload_n 1, 1) := by decide +kernel
theorem dX7_readPerson_66 : decode cX7_readPerson 66 = .ok (.dup, 1) := by decide +kernel
theorem dX7_readPerson_67 : decode cX7_readPerson 67 = .ok (.getfield 69, 3) := by decide +kernel
theorem dX7_readPerson_70 : decode cX7_readPerson 70 = .ok (.iconst 1, 1) := by decide +kernel
theorem dX7_readPerson_71 : decode cX7_readPerson 71 = .ok (.iadd, 1) := by decide +kernel
theorem dX7_readPerson_72 : decode cX7_readPerson 72 = .ok (.putfield 69, 3) := by decide +kernel
theorem dX7_readPerson_75 : decode cX7_readPerson 75 = .ok (.return_, 1) := by decide +kernel
theorem zd_X7_readPerson : yX7_readPerson.cls ≠ "java/lang/invoke/MethodHandle" ∧ yX7_readPerson.cls ≠ "java/lang/invoke/VarHandle" ∧ (parseMethodDescriptor yX7_readPerson.desc).map (fun d => d.parameters.length) = some 2 := by decide +kernel
set_option maxHeartbeats 4000000 in
set_option maxRecDepth 100000 in
theorem zc_X7_readPerson (l : Launch) (D : va_G) (cI cZ : ClassId) (tx : Nat) (tb : Nat) (tt : Nat) (len : Nat) (bf : Nat → Int32) (r : Nat) (ro : Nat) (rn : Nat) (rr : Nat) (rt : Int32) (fr : Int32) (pr : Int32) (n : Nat) (m : Nat) (a : Nat) (b : Nat) (f : Nat → Int32) (te : Nat → Int32) (nv : Nat → Int32) (ap : Nat) (hlen : len ≤ 64) (hn5 : n < 5) (hap : ap < 900) : zV l yX7_readPerson cX7_readPerson 5 2 46 D cI cZ [.ref tx, .ref r, .ref a] [(tx, .inr (7, [.ref tb, .ref tt, .int (nI len), .int (nI ap), .int (-9)])), (tb, .inl (cI, 64, .inl bf)), (tt, .inl (cI, 4, .inl te)), (r, .inr (3, [.ref ro, .ref rn, .ref rr, .int rt, .int fr, .int pr, .int (nI n), .int (nI m)])), (rn, .inl (cI, 5, .inl nv)), (a, .inr (6, [.ref b])), (b, .inl (cI, 36, .inl f))] (fun (u : (Nat → Int32) × (Nat → Int32)) => zcq (zoP bf len ap) 6 = 6 → u.2 = zpF f n bf ap) (fun (u : (Nat → Int32) × (Nat → Int32)) => [(tx, .inr (7, [.ref tb, .ref tt, .int (nI len), .int (nI (ap + zcq (zoP bf len ap) 6)), .int (zft ap (zcq (zoP bf len ap) 6) 6)])), (tb, .inl (cI, 64, .inl bf)), (tt, .inl (cI, 4, .inl u.1)), (r, .inr (3, [.ref ro, .ref rn, .ref rr, .int rt, .int fr, .int pr, .int (nI (n + 1)), .int (nI m)])), (rn, .inl (cI, 5, .inl (upd nv n (nI (zvd (zoP bf len ap) bf ap 5))))), (a, .inr (6, [.ref b])), (b, .inl (cI, 36, .inl u.2))]) := by
  refine zV_of (by decide) (Nat.le_of_ble_eq_true rfl) ?_
  intro pP eE sS mM aA bB mT cC A ls Z hP hD hS hl
  have hx := Z.1
  have hb := Z.2.1
  have hown := Z.2.2.2.2.2.1
  have hts := Z.2.2.2.2.1
  have Z : zAt pP sS mM aA mT cC D cI cZ A "SurpriseTax$Text" cX7_readPerson 5 none := Z
  have hl : lv_has ls 5 [(0, .ref tx), (1, .ref r), (2, .ref a)] := hl
  obtain ⟨H, hH⟩ : ∃ H, H = sS.heap := ⟨_, rfl⟩
  have hP : va_P D vwCl [(tx, .inr (7, [.ref tb, .ref tt, .int (nI len), .int (nI ap), .int (-9)])), (tb, .inl (cI, 64, .inl bf)), (tt, .inl (cI, 4, .inl te)), (r, .inr (3, [.ref ro, .ref rn, .ref rr, .int rt, .int fr, .int pr, .int (nI n), .int (nI m)])), (rn, .inl (cI, 5, .inl nv)), (a, .inr (6, [.ref b])), (b, .inl (cI, 36, .inl f))] H := by rw [hH]; exact hP
  have hS : va_S A sS.heap H [] := by rw [hH]; exact hS
  rw [← hH]
  clear hH
  obtain ⟨locs, hlo⟩ : ∃ q : List Loc, q = [] := ⟨_, rfl⟩
  rw [← hlo] at hS ⊢
  clear hlo
  refine lv_aload_n hx hb dX7_readPerson_0 rfl (lv_at hl 1 rfl) ?_
  refine z_getN (ci := 3) (v := .int (nI n)) Z zin3 hP 3 rfl rfl 6 (by decide) zn19 rfl rfl dX7_readPerson_1 ?_
  refine lv_istore_n (lv' := [(3, .int (nI n)), (0, .ref tx), (1, .ref r), (2, .ref a)]) hx hb dX7_readPerson_4 rfl hl (by decide) rfl (fun ls hl => ?_)
  have e_1 : nI ap = nI (ap + zcq (zoP bf len ap) 0) := by rfl
  have hP : va_P D vwCl [(tx, .inr (7, [.ref tb, .ref tt, .int (nI len), .int (nI (ap + zcq (zoP bf len ap) 0)), .int (-9)])), (tb, .inl (cI, 64, .inl bf)), (tt, .inl (cI, 4, .inl te)), (r, .inr (3, [.ref ro, .ref rn, .ref rr, .int rt, .int fr, .int pr, .int (nI n), .int (nI m)])), (rn, .inl (cI, 5, .inl nv)), (a, .inr (6, [.ref b])), (b, .inl (cI, 36, .inl f))] H := Eq.subst (motive := fun zz_ => va_P D vwCl [(tx, .inr (7, [.ref tb, .ref tt, .int (nI len), .int zz_, .int (-9)])), (tb, .inl (cI, 64, .inl bf)), (tt, .inl (cI, 4, .inl te)), (r, .inr (3, [.ref ro, .ref rn, .ref rr, .int rt, .int fr, .int pr, .int (nI n), .int (nI m)])), (rn, .inl (cI, 5, .inl nv)), (a, .inr (6, [.ref b])), (b, .inl (cI, 36, .inl f))] H) e_1 hP
  have hD : va_D A [(tx, .inr (7, [.ref tb, .ref tt, .int (nI len), .int (nI (ap + zcq (zoP bf len ap) 0)), .int (-9)])), (tb, .inl (cI, 64, .inl bf)), (tt, .inl (cI, 4, .inl te)), (r, .inr (3, [.ref ro, .ref rn, .ref rr, .int rt, .int fr, .int pr, .int (nI n), .int (nI m)])), (rn, .inl (cI, 5, .inl nv)), (a, .inr (6, [.ref b])), (b, .inl (cI, 36, .inl f))] := zD_of hD rfl
  have e_2 : -9 = zft ap (zcq (zoP bf len ap) 0) 0 := by rfl
  have hP : va_P D vwCl [(tx, .inr (7, [.ref tb, .ref tt, .int (nI len), .int (nI (ap + zcq (zoP bf len ap) 0)), .int (zft ap (zcq (zoP bf len ap) 0) 0)])), (tb, .inl (cI, 64, .inl bf)), (tt, .inl (cI, 4, .inl te)), (r, .inr (3, [.ref ro, .ref rn, .ref rr, .int rt, .int fr, .int pr, .int (nI n), .int (nI m)])), (rn, .inl (cI, 5, .inl nv)), (a, .inr (6, [.ref b])), (b, .inl (cI, 36, .inl f))] H := Eq.subst (motive := fun zz_ => va_P D vwCl [(tx, .inr (7, [.ref tb, .ref tt, .int (nI len), .int (nI (ap + zcq (zoP bf len ap) 0)), .int zz_])), (tb, .inl (cI, 64, .inl bf)), (tt, .inl (cI, 4, .inl te)), (r, .inr (3, [.ref ro, .ref rn, .ref rr, .int rt, .int fr, .int pr, .int (nI n), .int (nI m)])), (rn, .inl (cI, 5, .inl nv)), (a, .inr (6, [.ref b])), (b, .inl (cI, 36, .inl f))] H) e_2 hP
  have hD : va_D A [(tx, .inr (7, [.ref tb, .ref tt, .int (nI len), .int (nI (ap + zcq (zoP bf len ap) 0)), .int (zft ap (zcq (zoP bf len ap) 0) 0)])), (tb, .inl (cI, 64, .inl bf)), (tt, .inl (cI, 4, .inl te)), (r, .inr (3, [.ref ro, .ref rn, .ref rr, .int rt, .int fr, .int pr, .int (nI n), .int (nI m)])), (rn, .inl (cI, 5, .inl nv)), (a, .inr (6, [.ref b])), (b, .inl (cI, 36, .inl f))] := zD_of hD rfl
  refine lv_aload_n hx hb dX7_readPerson_5 rfl (lv_at hl 1 rfl) ?_
  refine z_callVv (As := []) (rest := []) (ci := 7) (k0 := 0) Z hP hD hS hl.1 (zc_X7_readTenths l D cI cZ tx tb tt len bf (zoP bf len ap) ap 0 te (by omega) (by intro k hk; rw [Nat.zero_add, Nat.add_zero]; exact zoP_T hk) (by omega)) zm238 zm239 zm3 zm31 zm240 ⟨rfl, zd_X7_readTenths⟩ ⟨Nat.le_of_ble_eq_true rfl, Nat.le_of_ble_eq_true rfl⟩ ⟨Nat.zero_le _, Nat.zero_le _⟩ [0, 1, 2] rfl (by decide) rfl rfl rfl (fun _ => rfl) rfl (Nat.le_of_ble_eq_true rfl) rfl dX7_readPerson_6 (fun u H locs h_4 hP hD hS => ?_)
  obtain ⟨te7, rfl⟩ : ∃ z, z = u := ⟨_, rfl⟩
  have hP : va_P D vwCl [(tx, .inr (7, [.ref tb, .ref tt, .int (nI len), .int (nI (ap + zcq (zoP bf len ap) 4)), .int (zft ap (zcq (zoP bf len ap) 4) 4)])), (tb, .inl (cI, 64, .inl bf)), (tt, .inl (cI, 4, .inl te7)), (r, .inr (3, [.ref ro, .ref rn, .ref rr, .int rt, .int fr, .int pr, .int (nI n), .int (nI m)])), (rn, .inl (cI, 5, .inl nv)), (a, .inr (6, [.ref b])), (b, .inl (cI, 36, .inl f))] H := hP
  have hD : va_D A [(tx, .inr (7, [.ref tb, .ref tt, .int (nI len), .int (nI (ap + zcq (zoP bf len ap) 4)), .int (zft ap (zcq (zoP bf len ap) 4) 4)])), (tb, .inl (cI, 64, .inl bf)), (tt, .inl (cI, 4, .inl te7)), (r, .inr (3, [.ref ro, .ref rn, .ref rr, .int rt, .int fr, .int pr, .int (nI n), .int (nI m)])), (rn, .inl (cI, 5, .inl nv)), (a, .inr (6, [.ref b])), (b, .inl (cI, 36, .inl f))] := hD
  have h_4 : zcq (zoP bf len ap) 4 = 0 + 4 → ∀ y, y < 4 → te7 y = nI (zdg bf (ap + 0 + y)) := h_4
  refine lv_iconst (v := nI 0) hx hb dX7_readPerson_9 (by decide) ?_
  refine lv_istore (lv' := [(4, .int (nI 0)), (3, .int (nI n)), (0, .ref tx), (1, .ref r), (2, .ref a)]) hx hb dX7_readPerson_10 hl (by decide) rfl (fun ls hl => ?_)
  have e_6 : f = zpt f n te7 0 := by rfl
  have hP : va_P D vwCl [(tx, .inr (7, [.ref tb, .ref tt, .int (nI len), .int (nI (ap + zcq (zoP bf len ap) 4)), .int (zft ap (zcq (zoP bf len ap) 4) 4)])), (tb, .inl (cI, 64, .inl bf)), (tt, .inl (cI, 4, .inl te7)), (r, .inr (3, [.ref ro, .ref rn, .ref rr, .int rt, .int fr, .int pr, .int (nI n), .int (nI m)])), (rn, .inl (cI, 5, .inl nv)), (a, .inr (6, [.ref b])), (b, .inl (cI, 36, .inl (zpt f n te7 0)))] H := Eq.subst (motive := fun zz_ => va_P D vwCl [(tx, .inr (7, [.ref tb, .ref tt, .int (nI len), .int (nI (ap + zcq (zoP bf len ap) 4)), .int (zft ap (zcq (zoP bf len ap) 4) 4)])), (tb, .inl (cI, 64, .inl bf)), (tt, .inl (cI, 4, .inl te7)), (r, .inr (3, [.ref ro, .ref rn, .ref rr, .int rt, .int fr, .int pr, .int (nI n), .int (nI m)])), (rn, .inl (cI, 5, .inl nv)), (a, .inr (6, [.ref b])), (b, .inl (cI, 36, .inl zz_))] H) e_6 hP
  have hD : va_D A [(tx, .inr (7, [.ref tb, .ref tt, .int (nI len), .int (nI (ap + zcq (zoP bf len ap) 4)), .int (zft ap (zcq (zoP bf len ap) 4) 4)])), (tb, .inl (cI, 64, .inl bf)), (tt, .inl (cI, 4, .inl te7)), (r, .inr (3, [.ref ro, .ref rn, .ref rr, .int rt, .int fr, .int pr, .int (nI n), .int (nI m)])), (rn, .inl (cI, 5, .inl nv)), (a, .inr (6, [.ref b])), (b, .inl (cI, 36, .inl (zpt f n te7 0)))] := zD_of hD rfl
  have hl : lv_has ls 5 [(4, .int (nI 0)), (3, .int (nI n)), (0, .ref tx), (1, .ref r), (2, .ref a)] := lv_sub hl [0, 1, 2, 3, 4] rfl
  refine z_loop (fun k H locs ls => va_P D vwCl [(tx, .inr (7, [.ref tb, .ref tt, .int (nI len), .int (nI (ap + zcq (zoP bf len ap) 4)), .int (zft ap (zcq (zoP bf len ap) 4) 4)])), (tb, .inl (cI, 64, .inl bf)), (tt, .inl (cI, 4, .inl te7)), (r, .inr (3, [.ref ro, .ref rn, .ref rr, .int rt, .int fr, .int pr, .int (nI n), .int (nI m)])), (rn, .inl (cI, 5, .inl nv)), (a, .inr (6, [.ref b])), (b, .inl (cI, 36, .inl (zpt f n te7 k)))] H ∧ va_D A [(tx, .inr (7, [.ref tb, .ref tt, .int (nI len), .int (nI (ap + zcq (zoP bf len ap) 4)), .int (zft ap (zcq (zoP bf len ap) 4) 4)])), (tb, .inl (cI, 64, .inl bf)), (tt, .inl (cI, 4, .inl te7)), (r, .inr (3, [.ref ro, .ref rn, .ref rr, .int rt, .int fr, .int pr, .int (nI n), .int (nI m)])), (rn, .inl (cI, 5, .inl nv)), (a, .inr (6, [.ref b])), (b, .inl (cI, 36, .inl (zpt f n te7 k)))] ∧ va_S A sS.heap H locs ∧ lv_has ls 5 [(4, .int (nI k)), (3, .int (nI n)), (0, .ref tx), (1, .ref r), (2, .ref a)]) (4) (lo := 0) (by omega) ⟨hP, hD, hS, hl⟩ (fun k hi_k ih_5 H locs ls hI => ?_)
  obtain ⟨hP, hD, hS, hl⟩ := hI
  have hP : va_P D vwCl [(tx, .inr (7, [.ref tb, .ref tt, .int (nI len), .int (nI (ap + zcq (zoP bf len ap) 4)), .int (zft ap (zcq (zoP bf len ap) 4) 4)])), (tb, .inl (cI, 64, .inl bf)), (tt, .inl (cI, 4, .inl te7)), (r, .inr (3, [.ref ro, .ref rn, .ref rr, .int rt, .int fr, .int pr, .int (nI n), .int (nI m)])), (rn, .inl (cI, 5, .inl nv)), (a, .inr (6, [.ref b])), (b, .inl (cI, 36, .inl (zpt f n te7 k)))] H := hP
  have hD : va_D A [(tx, .inr (7, [.ref tb, .ref tt, .int (nI len), .int (nI (ap + zcq (zoP bf len ap) 4)), .int (zft ap (zcq (zoP bf len ap) 4) 4)])), (tb, .inl (cI, 64, .inl bf)), (tt, .inl (cI, 4, .inl te7)), (r, .inr (3, [.ref ro, .ref rn, .ref rr, .int rt, .int fr, .int pr, .int (nI n), .int (nI m)])), (rn, .inl (cI, 5, .inl nv)), (a, .inr (6, [.ref b])), (b, .inl (cI, 36, .inl (zpt f n te7 k)))] := hD
  have hl : lv_has ls 5 [(4, .int (nI k)), (3, .int (nI n)), (0, .ref tx), (1, .ref r), (2, .ref a)] := hl
  refine lv_iload hx hb dX7_readPerson_12 (lv_at hl 0 rfl) ?_
  refine lv_iconst (v := nI 4) hx hb dX7_readPerson_14 (by decide) ?_
  refine lv_icmp_ge (tgt := 38) hx hb dX7_readPerson_15 (by decide) (fun c_7 => ?_) (fun c_7 => ?_)
  · have c_7 := zle (i := 4) (j := k) (by decide) (by omega) c_7
    have hE_ : 4 = k := by omega
    subst hE_
    refine lv_aload_n hx hb dX7_readPerson_38 rfl (lv_at hl 4 rfl) ?_
    refine lv_iload_n hx hb dX7_readPerson_39 rfl (lv_at hl 1 rfl) ?_
    refine lv_bipush (v := nI 10) hx hb dX7_readPerson_40 (by decide) ?_
    refine lv_aload_n hx hb dX7_readPerson_42 rfl (lv_at hl 2 rfl) ?_
    refine lv_sipush (v := nI 1023) hx hb dX7_readPerson_43 (by decide) ?_
    refine z_callVi (As := [.int (nI 1023)]) (rest := [.int (nI 10), .int (nI n), .ref a]) (ci := 7) (k0 := 0) Z hP hD hS hl.1 (zc_X7_figure l D cI cZ tx tb tt len bf (zoP bf len ap) ap 4 (nI 1023) (by omega) (by intro _; exact zok_any) (by omega)) zm235 zm236 zm2 zm31 zm237 ⟨rfl, zd_X7_figure⟩ ⟨Nat.le_of_ble_eq_true rfl, Nat.le_of_ble_eq_true rfl⟩ ⟨Nat.zero_le _, Nat.zero_le _⟩ [0, 1] rfl (by decide) rfl rfl rfl (fun _ => rfl) rfl (Nat.le_of_ble_eq_true rfl) rfl dX7_readPerson_46 (fun r_8 u H locs h_9 hP hD hS => ?_)
    have hP : va_P D vwCl [(tx, .inr (7, [.ref tb, .ref tt, .int (nI len), .int (nI (ap + zcq (zoP bf len ap) 5)), .int (zft ap (zcq (zoP bf len ap) 5) 5)])), (tb, .inl (cI, 64, .inl bf)), (tt, .inl (cI, 4, .inl te7)), (r, .inr (3, [.ref ro, .ref rn, .ref rr, .int rt, .int fr, .int pr, .int (nI n), .int (nI m)])), (rn, .inl (cI, 5, .inl nv)), (a, .inr (6, [.ref b])), (b, .inl (cI, 36, .inl (zpt f n te7 4)))] H := hP
    have hD : va_D A [(tx, .inr (7, [.ref tb, .ref tt, .int (nI len), .int (nI (ap + zcq (zoP bf len ap) 5)), .int (zft ap (zcq (zoP bf len ap) 5) 5)])), (tb, .inl (cI, 64, .inl bf)), (tt, .inl (cI, 4, .inl te7)), (r, .inr (3, [.ref ro, .ref rn, .ref rr, .int rt, .int fr, .int pr, .int (nI n), .int (nI m)])), (rn, .inl (cI, 5, .inl nv)), (a, .inr (6, [.ref b])), (b, .inl (cI, 36, .inl (zpt f n te7 4)))] := hD
    have h_9 : r_8 = nI (zvd (zoP bf len ap) bf ap 4) := h_9
    subst h_9
    refine lv_imul hx hb dX7_readPerson_49 ?_
    refine z_top (y := nI (10 * (zvd (zoP bf len ap) bf ap 4))) (z_mul _ _) ?_
    refine z_callVv (As := [.int (nI n), .int (nI (10 * (zvd (zoP bf len ap) bf ap 4)))]) (rest := []) (ci := 6) (k0 := 0) Z hP hD hS hl.1 (zc_X6_setCoins l D cI cZ a b (zpt f n te7 4) n (nI (10 * (zvd (zoP bf len ap) bf ap 4))) (by omega)) zm257 zm258 zm259 zm33 zm260 ⟨rfl, zd_X6_setCoins⟩ ⟨Nat.le_of_ble_eq_true rfl, Nat.le_of_ble_eq_true rfl⟩ ⟨Nat.zero_le _, Nat.zero_le _⟩ [5, 6] rfl (by decide) rfl rfl rfl (fun _ => rfl) rfl (Nat.le_of_ble_eq_true rfl) rfl dX7_readPerson_50 (fun u H locs h_11 hP hD hS => ?_)
    have hP : va_P D vwCl [(tx, .inr (7, [.ref tb, .ref tt, .int (nI len), .int (nI (ap + zcq (zoP bf len ap) 5)), .int (zft ap (zcq (zoP bf len ap) 5) 5)])), (tb, .inl (cI, 64, .inl bf)), (tt, .inl (cI, 4, .inl te7)), (r, .inr (3, [.ref ro, .ref rn, .ref rr, .int rt, .int fr, .int pr, .int (nI n), .int (nI m)])), (rn, .inl (cI, 5, .inl nv)), (a, .inr (6, [.ref b])), (b, .inl (cI, 36, .inl (upd (zpt f n te7 4) (20 + n) (nI (10 * (zvd (zoP bf len ap) bf ap 4))))))] H := hP
    have hD : va_D A [(tx, .inr (7, [.ref tb, .ref tt, .int (nI len), .int (nI (ap + zcq (zoP bf len ap) 5)), .int (zft ap (zcq (zoP bf len ap) 5) 5)])), (tb, .inl (cI, 64, .inl bf)), (tt, .inl (cI, 4, .inl te7)), (r, .inr (3, [.ref ro, .ref rn, .ref rr, .int rt, .int fr, .int pr, .int (nI n), .int (nI m)])), (rn, .inl (cI, 5, .inl nv)), (a, .inr (6, [.ref b])), (b, .inl (cI, 36, .inl (upd (zpt f n te7 4) (20 + n) (nI (10 * (zvd (zoP bf len ap) bf ap 4))))))] := hD
    refine lv_aload_n hx hb dX7_readPerson_53 rfl (lv_at hl 3 rfl) ?_
    refine z_getN (ci := 3) (v := .ref rn) Z zin3 hP 3 rfl rfl 1 (by decide) zn6 rfl rfl dX7_readPerson_54 ?_
    refine lv_iload_n hx hb dX7_readPerson_57 rfl (lv_at hl 1 rfl) ?_
    refine lv_aload_n hx hb dX7_readPerson_58 rfl (lv_at hl 2 rfl) ?_
    refine lv_bipush (v := nI 63) hx hb dX7_readPerson_59 (by decide) ?_
    refine z_callVi (As := [.int (nI 63)]) (rest := [.int (nI n), .ref rn]) (ci := 7) (k0 := 0) Z hP hD hS hl.1 (zc_X7_figure l D cI cZ tx tb tt len bf (zoP bf len ap) ap 5 (nI 63) (by omega) (by intro _; exact zok_nv) (by omega)) zm235 zm236 zm2 zm31 zm237 ⟨rfl, zd_X7_figure⟩ ⟨Nat.le_of_ble_eq_true rfl, Nat.le_of_ble_eq_true rfl⟩ ⟨Nat.zero_le _, Nat.zero_le _⟩ [0, 1] rfl (by decide) rfl rfl rfl (fun _ => rfl) rfl (Nat.le_of_ble_eq_true rfl) rfl dX7_readPerson_61 (fun r_12 u H locs h_13 hP hD hS => ?_)
    have hP : va_P D vwCl [(tx, .inr (7, [.ref tb, .ref tt, .int (nI len), .int (nI (ap + zcq (zoP bf len ap) 6)), .int (zft ap (zcq (zoP bf len ap) 6) 6)])), (tb, .inl (cI, 64, .inl bf)), (tt, .inl (cI, 4, .inl te7)), (r, .inr (3, [.ref ro, .ref rn, .ref rr, .int rt, .int fr, .int pr, .int (nI n), .int (nI m)])), (rn, .inl (cI, 5, .inl nv)), (a, .inr (6, [.ref b])), (b, .inl (cI, 36, .inl (upd (zpt f n te7 4) (20 + n) (nI (10 * (zvd (zoP bf len ap) bf ap 4))))))] H := hP
    have hD : va_D A [(tx, .inr (7, [.ref tb, .ref tt, .int (nI len), .int (nI (ap + zcq (zoP bf len ap) 6)), .int (zft ap (zcq (zoP bf len ap) 6) 6)])), (tb, .inl (cI, 64, .inl bf)), (tt, .inl (cI, 4, .inl te7)), (r, .inr (3, [.ref ro, .ref rn, .ref rr, .int rt, .int fr, .int pr, .int (nI n), .int (nI m)])), (rn, .inl (cI, 5, .inl nv)), (a, .inr (6, [.ref b])), (b, .inl (cI, 36, .inl (upd (zpt f n te7 4) (20 + n) (nI (10 * (zvd (zoP bf len ap) bf ap 4))))))] := hD
    have h_13 : r_12 = nI (zvd (zoP bf len ap) bf ap 5) := h_13
    subst h_13
    refine z_iast (n := 5) (f := nv) (j := n) (x := nI (zvd (zoP bf len ap) bf ap 5)) Z hP hD hS 4 rfl (by omega) (by decide) dX7_readPerson_64 (fun H locs hP hD hS => ?_)
    have hP : va_P D vwCl [(tx, .inr (7, [.ref tb, .ref tt, .int (nI len), .int (nI (ap + zcq (zoP bf len ap) 6)), .int (zft ap (zcq (zoP bf len ap) 6) 6)])), (tb, .inl (cI, 64, .inl bf)), (tt, .inl (cI, 4, .inl te7)), (r, .inr (3, [.ref ro, .ref rn, .ref rr, .int rt, .int fr, .int pr, .int (nI n), .int (nI m)])), (rn, .inl (cI, 5, .inl (upd nv n (nI (zvd (zoP bf len ap) bf ap 5))))), (a, .inr (6, [.ref b])), (b, .inl (cI, 36, .inl (upd (zpt f n te7 4) (20 + n) (nI (10 * (zvd (zoP bf len ap) bf ap 4))))))] H := hP
    have hD : va_D A [(tx, .inr (7, [.ref tb, .ref tt, .int (nI len), .int (nI (ap + zcq (zoP bf len ap) 6)), .int (zft ap (zcq (zoP bf len ap) 6) 6)])), (tb, .inl (cI, 64, .inl bf)), (tt, .inl (cI, 4, .inl te7)), (r, .inr (3, [.ref ro, .ref rn, .ref rr, .int rt, .int fr, .int pr, .int (nI n), .int (nI m)])), (rn, .inl (cI, 5, .inl (upd nv n (nI (zvd (zoP bf len ap) bf ap 5))))), (a, .inr (6, [.ref b])), (b, .inl (cI, 36, .inl (upd (zpt f n te7 4) (20 + n) (nI (10 * (zvd (zoP bf len ap) bf ap 4))))))] := hD
    refine lv_aload_n hx hb dX7_readPerson_65 rfl (lv_at hl 3 rfl) ?_
    refine lv_dup hx hb dX7_readPerson_66 rfl ?_
    refine z_getN (ci := 3) (v := .int (nI n)) Z zin3 hP 3 rfl rfl 6 (by decide) zn19 rfl rfl dX7_readPerson_67 ?_
    refine lv_iconst (v := nI 1) hx hb dX7_readPerson_70 (by decide) ?_
    refine lv_iadd hx hb dX7_readPerson_71 ?_
    refine z_top (y := nI (n + 1)) (z_add _ _) ?_
    refine z_putN (ci := 3) (v := .int (nI (n + 1))) Z zin3 tyX3 tyX3_ok nmX3 hP hD hS 3 rfl rfl 6 (by decide) zn19 rfl rfl rfl rfl (Nat.le_of_ble_eq_true rfl) dX7_readPerson_72 (fun H locs hP hD hS => ?_)
    have hP : va_P D vwCl [(tx, .inr (7, [.ref tb, .ref tt, .int (nI len), .int (nI (ap + zcq (zoP bf len ap) 6)), .int (zft ap (zcq (zoP bf len ap) 6) 6)])), (tb, .inl (cI, 64, .inl bf)), (tt, .inl (cI, 4, .inl te7)), (r, .inr (3, [.ref ro, .ref rn, .ref rr, .int rt, .int fr, .int pr, .int (nI (n + 1)), .int (nI m)])), (rn, .inl (cI, 5, .inl (upd nv n (nI (zvd (zoP bf len ap) bf ap 5))))), (a, .inr (6, [.ref b])), (b, .inl (cI, 36, .inl (upd (zpt f n te7 4) (20 + n) (nI (10 * (zvd (zoP bf len ap) bf ap 4))))))] H := hP
    have hD : va_D A [(tx, .inr (7, [.ref tb, .ref tt, .int (nI len), .int (nI (ap + zcq (zoP bf len ap) 6)), .int (zft ap (zcq (zoP bf len ap) 6) 6)])), (tb, .inl (cI, 64, .inl bf)), (tt, .inl (cI, 4, .inl te7)), (r, .inr (3, [.ref ro, .ref rn, .ref rr, .int rt, .int fr, .int pr, .int (nI (n + 1)), .int (nI m)])), (rn, .inl (cI, 5, .inl (upd nv n (nI (zvd (zoP bf len ap) bf ap 5))))), (a, .inr (6, [.ref b])), (b, .inl (cI, 36, .inl (upd (zpt f n te7 4) (20 + n) (nI (10 * (zvd (zoP bf len ap) bf ap 4))))))] := hD
    exact z_vret Z (te7, upd (zpt f n te7 4) (20 + n) (nI (10 * (zvd (zoP bf len ap) bf ap 4)))) (by intro hz; exact zpF_of hz (by assumption)) hP hS dX7_readPerson_75
  · have c_7 := znle (i := 4) (j := k) (by decide) (by omega) c_7
    refine lv_aload_n hx hb dX7_readPerson_18 rfl (lv_at hl 4 rfl) ?_
    refine lv_iload_n hx hb dX7_readPerson_19 rfl (lv_at hl 1 rfl) ?_
    refine lv_iload hx hb dX7_readPerson_20 (lv_at hl 0 rfl) ?_
    refine lv_aload_n hx hb dX7_readPerson_22 rfl (lv_at hl 2 rfl) ?_
    refine z_get (ci := 7) (v := .ref tt) Z zin7 hP 0 rfl rfl 1 (by decide) zm57 rfl rfl dX7_readPerson_23 ?_
    refine lv_iload hx hb dX7_readPerson_26 (lv_at hl 0 rfl) ?_
    refine z_iald (n := 4) (f := te7) (j := k) Z hP 2 rfl (by omega) (by decide) dX7_readPerson_28 ?_
    refine z_callVv (As := [.int (nI n), .int (nI k), .int (te7 k)]) (rest := []) (ci := 6) (k0 := 0) Z hP hD hS hl.1 (zc_X6_setExpected l D cI cZ a b (zpt f n te7 k) n k (te7 k) (by omega) (by omega)) zm253 zm254 zm255 zm33 zm256 ⟨rfl, zd_X6_setExpected⟩ ⟨Nat.le_of_ble_eq_true rfl, Nat.le_of_ble_eq_true rfl⟩ ⟨Nat.zero_le _, Nat.zero_le _⟩ [5, 6] rfl (by decide) rfl rfl rfl (fun _ => rfl) rfl (Nat.le_of_ble_eq_true rfl) rfl dX7_readPerson_29 (fun u H locs h_15 hP hD hS => ?_)
    have hP : va_P D vwCl [(tx, .inr (7, [.ref tb, .ref tt, .int (nI len), .int (nI (ap + zcq (zoP bf len ap) 4)), .int (zft ap (zcq (zoP bf len ap) 4) 4)])), (tb, .inl (cI, 64, .inl bf)), (tt, .inl (cI, 4, .inl te7)), (r, .inr (3, [.ref ro, .ref rn, .ref rr, .int rt, .int fr, .int pr, .int (nI n), .int (nI m)])), (rn, .inl (cI, 5, .inl nv)), (a, .inr (6, [.ref b])), (b, .inl (cI, 36, .inl (upd (zpt f n te7 k) (n * 4 + k) (te7 k))))] H := hP
    have hD : va_D A [(tx, .inr (7, [.ref tb, .ref tt, .int (nI len), .int (nI (ap + zcq (zoP bf len ap) 4)), .int (zft ap (zcq (zoP bf len ap) 4) 4)])), (tb, .inl (cI, 64, .inl bf)), (tt, .inl (cI, 4, .inl te7)), (r, .inr (3, [.ref ro, .ref rn, .ref rr, .int rt, .int fr, .int pr, .int (nI n), .int (nI m)])), (rn, .inl (cI, 5, .inl nv)), (a, .inr (6, [.ref b])), (b, .inl (cI, 36, .inl (upd (zpt f n te7 k) (n * 4 + k) (te7 k))))] := hD
    refine lv_iinc (v := nI (k + 1)) (lv' := [(4, .int (nI (k + 1))), (3, .int (nI n)), (0, .ref tx), (1, .ref r), (2, .ref a)]) hx hb dX7_readPerson_32 hl (k := 0) rfl (z_inc _ 1) (by decide) rfl (fun ls hl => ?_)
    refine lv_goto (tgt := 12) hx hb dX7_readPerson_35 (by decide) ?_
    have e_16 : upd (zpt f n te7 k) (n * 4 + k) (te7 k) = zpt f n te7 (k + 1) := by rfl
    have hP : va_P D vwCl [(tx, .inr (7, [.ref tb, .ref tt, .int (nI len), .int (nI (ap + zcq (zoP bf len ap) 4)), .int (zft ap (zcq (zoP bf len ap) 4) 4)])), (tb, .inl (cI, 64, .inl bf)), (tt, .inl (cI, 4, .inl te7)), (r, .inr (3, [.ref ro, .ref rn, .ref rr, .int rt, .int fr, .int pr, .int (nI n), .int (nI m)])), (rn, .inl (cI, 5, .inl nv)), (a, .inr (6, [.ref b])), (b, .inl (cI, 36, .inl (zpt f n te7 (k + 1))))] H := Eq.subst (motive := fun zz_ => va_P D vwCl [(tx, .inr (7, [.ref tb, .ref tt, .int (nI len), .int (nI (ap + zcq (zoP bf len ap) 4)), .int (zft ap (zcq (zoP bf len ap) 4) 4)])), (tb, .inl (cI, 64, .inl bf)), (tt, .inl (cI, 4, .inl te7)), (r, .inr (3, [.ref ro, .ref rn, .ref rr, .int rt, .int fr, .int pr, .int (nI n), .int (nI m)])), (rn, .inl (cI, 5, .inl nv)), (a, .inr (6, [.ref b])), (b, .inl (cI, 36, .inl zz_))] H) e_16 hP
    have hD : va_D A [(tx, .inr (7, [.ref tb, .ref tt, .int (nI len), .int (nI (ap + zcq (zoP bf len ap) 4)), .int (zft ap (zcq (zoP bf len ap) 4) 4)])), (tb, .inl (cI, 64, .inl bf)), (tt, .inl (cI, 4, .inl te7)), (r, .inr (3, [.ref ro, .ref rn, .ref rr, .int rt, .int fr, .int pr, .int (nI n), .int (nI m)])), (rn, .inl (cI, 5, .inl nv)), (a, .inr (6, [.ref b])), (b, .inl (cI, 36, .inl (zpt f n te7 (k + 1))))] := zD_of hD rfl
    have hl : lv_has ls 5 [(4, .int (nI (k + 1))), (3, .int (nI n)), (0, .ref tx), (1, .ref r), (2, .ref a)] := lv_sub hl [0, 1, 2, 3, 4] rfl
    exact ih_5 _ _ _ (by omega) ⟨hP, hD, hS, hl⟩

theorem dX7_readRoad_0 : decode cX7_readRoad 0 = .ok (.aload_n 0, 1) := by decide +kernel
theorem dX7_readRoad_1 : decode cX7_readRoad 1 = .ok (.aload_n 1, 1) := by decide +kernel
theorem dX7_readRoad_2 : decode cX7_readRoad 2 = .ok (.invokevirtual 75, 3) := by decide +kernel
theorem dX7_readRoad_5 : decode cX7_readRoad 5 = .ok (.invokevirtual 50, 3) := by decide +kernel
theorem dX7_readRoad_8 : decode cX7_readRoad 8 = .ok (.istore_n 2, 1) := by decide +kernel
theorem dX7_readRoad_9 : decode cX7_readRoad 9 = .ok (.aload_n 0, 1) := by decide +kernel
theorem dX7_readRoad_10 : decode cX7_readRoad 10 = .ok (.aload_n 1, 1) := by decide +kernel
theorem dX7_readRoad_11 : decode cX7_readRoad 11 = .ok (.iload_n 2, 1) := by decide +kernel
theorem dX7_readRoad_12 : decode cX7_readRoad 12 = .ok (.invokevirtual 93, 3) := by decide +kernel
theorem dX7_readRoad_15 : decode cX7_readRoad 15 = .ok (.invokevirtual 50, 3) := by decide +kernel
theorem dX7_readRoad_18 : decode cX7_readRoad 18 = .ok (.istore_n 3, 1) := by decide +kernel
theorem dX7_readRoad_19 : decode cX7_readRoad 19 = .ok (.aload_n 0, 1) := by decide +kernel
theorem dX7_readRoad_20 : decode cX7_readRoad 20 = .ok (.getfield 25, 3) := by decide +kernel
theorem dX7_readRoad_23 : decode cX7_readRoad 23 = .ok (.bipush (-9), 2) := by decide +kernel
theorem dX7_readRoad_25 : decode cX7_readRoad 25 = .ok (.if_icmp .ne 9, 3) := by decide +kernel
theorem dX7_readRoad_28 : decode cX7_readRoad 28 = .ok (.aload_n 1, 1) := by decide +kernel
theorem dX7_readRoad_29 : decode cX7_readRoad 29 = .ok (.iload_n 2, 1) := by decide +kernel
theorem dX7_readRoad_30 : decode cX7_readRoad 30 = .ok (.iload_n 3, 1) := by decide +kernel
theorem dX7_readRoad_31 : decode cX7_readRoad 31 = .ok (.invokevirtual 96, 3) := by decide +kernel
theorem dX7_readRoad_34 : decode cX7_readRoad 34 = .ok (.return_, 1) := by decide +kernel
theorem zd_X7_readRoad : yX7_readRoad.cls ≠ "java/lang/invoke/MethodHandle" ∧ yX7_readRoad.cls ≠ "java/lang/invoke/VarHandle" ∧ (parseMethodDescriptor yX7_readRoad.desc).map (fun d => d.parameters.length) = some 1 := by decide +kernel
set_option maxHeartbeats 4000000 in
set_option maxRecDepth 100000 in
theorem zc_X7_readRoad (l : Launch) (D : va_G) (cI cZ : ClassId) (tx : Nat) (tb : Nat) (tt : Nat) (len : Nat) (bf : Nat → Int32) (r : Nat) (ro : Nat) (rn : Nat) (rr : Nat) (rt : Int32) (fr : Int32) (pr : Int32) (n : Nat) (m : Nat) (rd : Nat → Int32) (ap : Nat) (hlen : len ≤ 64) (hn : n ≤ 5) (hn1 : 1 ≤ n) (hm6 : m < 6) (hrw : zrwN rd) (hap : ap < 900) : zV l yX7_readRoad cX7_readRoad 4 3 64 D cI cZ [.ref tx, .ref r] [(tx, .inr (7, [.ref tb, .ref tt, .int (nI len), .int (nI ap), .int (-9)])), (tb, .inl (cI, 64, .inl bf)), (r, .inr (3, [.ref ro, .ref rn, .ref rr, .int rt, .int fr, .int pr, .int (nI n), .int (nI m)])), (rr, .inl (cI, 5, .inl rd))] (fun (u : Unit) => True) (fun (u : Unit) => [(tx, .inr (7, [.ref tb, .ref tt, .int (nI len), .int (nI (ap + zcq (zoD bf len n rd ap) 2)), .int (zft ap (zcq (zoD bf len n rd ap) 2) 2)])), (tb, .inl (cI, 64, .inl bf)), (r, .inr (3, [.ref ro, .ref rn, .ref rr, .int rt, .int fr, .int pr, .int (nI n), .int (nI (if zcq (zoD bf len n rd ap) 2 = 2 then m + 1 else m))])), (rr, .inl (cI, 5, .inl (if zcq (zoD bf len n rd ap) 2 = 2 then zrdN rd (zdg bf ap) (zdg bf (ap + 1)) else rd)))]) := by
  refine zV_of (by decide) (Nat.le_of_ble_eq_true rfl) ?_
  intro pP eE sS mM aA bB mT cC A ls Z hP hD hS hl
  have hx := Z.1
  have hb := Z.2.1
  have hown := Z.2.2.2.2.2.1
  have hts := Z.2.2.2.2.1
  have Z : zAt pP sS mM aA mT cC D cI cZ A "SurpriseTax$Text" cX7_readRoad 4 none := Z
  have hl : lv_has ls 4 [(0, .ref tx), (1, .ref r)] := hl
  obtain ⟨H, hH⟩ : ∃ H, H = sS.heap := ⟨_, rfl⟩
  have hP : va_P D vwCl [(tx, .inr (7, [.ref tb, .ref tt, .int (nI len), .int (nI ap), .int (-9)])), (tb, .inl (cI, 64, .inl bf)), (r, .inr (3, [.ref ro, .ref rn, .ref rr, .int rt, .int fr, .int pr, .int (nI n), .int (nI m)])), (rr, .inl (cI, 5, .inl rd))] H := by rw [hH]; exact hP
  have hS : va_S A sS.heap H [] := by rw [hH]; exact hS
  rw [← hH]
  clear hH
  obtain ⟨locs, hlo⟩ : ∃ q : List Loc, q = [] := ⟨_, rfl⟩
  rw [← hlo] at hS ⊢
  clear hlo
  have e_1 : nI ap = nI (ap + zcq (zoD bf len n rd ap) 0) := by rfl
  have hP : va_P D vwCl [(tx, .inr (7, [.ref tb, .ref tt, .int (nI len), .int (nI (ap + zcq (zoD bf len n rd ap) 0)), .int (-9)])), (tb, .inl (cI, 64, .inl bf)), (r, .inr (3, [.ref ro, .ref rn, .ref rr, .int rt, .int fr, .int pr, .int (nI n), .int (nI m)])), (rr, .inl (cI, 5, .inl rd))] H := Eq.subst (motive := fun zz_ => va_P D vwCl [(tx, .inr (7, [.ref tb, .ref tt, .int (nI len), .int zz_, .int (-9)])), (tb, .inl (cI, 64, .inl bf)), (r, .inr (3, [.ref ro, .ref rn, .ref rr, .int rt, .int fr, .int pr, .int (nI n), .int (nI m)])), (rr, .inl (cI, 5, .inl rd))] H) e_1 hP
  have hD : va_D A [(tx, .inr (7, [.ref tb, .ref tt, .int (nI len), .int (nI (ap + zcq (zoD bf len n rd ap) 0)), .int (-9)])), (tb, .inl (cI, 64, .inl bf)), (r, .inr (3, [.ref ro, .ref rn, .ref rr, .int rt, .int fr, .int pr, .int (nI n), .int (nI m)])), (rr, .inl (cI, 5, .inl rd))] := zD_of hD rfl
  have e_2 : -9 = zft ap (zcq (zoD bf len n rd ap) 0) 0 := by rfl
  have hP : va_P D vwCl [(tx, .inr (7, [.ref tb, .ref tt, .int (nI len), .int (nI (ap + zcq (zoD bf len n rd ap) 0)), .int (zft ap (zcq (zoD bf len n rd ap) 0) 0)])), (tb, .inl (cI, 64, .inl bf)), (r, .inr (3, [.ref ro, .ref rn, .ref rr, .int rt, .int fr, .int pr, .int (nI n), .int (nI m)])), (rr, .inl (cI, 5, .inl rd))] H := Eq.subst (motive := fun zz_ => va_P D vwCl [(tx, .inr (7, [.ref tb, .ref tt, .int (nI len), .int (nI (ap + zcq (zoD bf len n rd ap) 0)), .int zz_])), (tb, .inl (cI, 64, .inl bf)), (r, .inr (3, [.ref ro, .ref rn, .ref rr, .int rt, .int fr, .int pr, .int (nI n), .int (nI m)])), (rr, .inl (cI, 5, .inl rd))] H) e_2 hP
  have hD : va_D A [(tx, .inr (7, [.ref tb, .ref tt, .int (nI len), .int (nI (ap + zcq (zoD bf len n rd ap) 0)), .int (zft ap (zcq (zoD bf len n rd ap) 0) 0)])), (tb, .inl (cI, 64, .inl bf)), (r, .inr (3, [.ref ro, .ref rn, .ref rr, .int rt, .int fr, .int pr, .int (nI n), .int (nI m)])), (rr, .inl (cI, 5, .inl rd))] := zD_of hD rfl
  refine lv_aload_n hx hb dX7_readRoad_0 rfl (lv_at hl 0 rfl) ?_
  refine lv_aload_n hx hb dX7_readRoad_1 rfl (lv_at hl 1 rfl) ?_
  refine z_callVi (As := []) (rest := [.ref tx]) (ci := 3) (k0 := 0) Z hP hD hS hl.1 (zc_X3_roadStarts l D cI cZ r ro rn rr rt fr pr n m rd (by omega) (by omega)) zm261 zm262 zm263 zm32 zm264 ⟨rfl, zd_X3_roadStarts⟩ ⟨Nat.le_of_ble_eq_true rfl, Nat.le_of_ble_eq_true rfl⟩ ⟨Nat.zero_le _, Nat.zero_le _⟩ [2, 3] rfl (by decide) rfl rfl rfl (fun _ => rfl) rfl (Nat.le_of_ble_eq_true rfl) rfl dX7_readRoad_2 (fun r_3 u H locs h_4 hP hD hS => ?_)
  have hP : va_P D vwCl [(tx, .inr (7, [.ref tb, .ref tt, .int (nI len), .int (nI (ap + zcq (zoD bf len n rd ap) 0)), .int (zft ap (zcq (zoD bf len n rd ap) 0) 0)])), (tb, .inl (cI, 64, .inl bf)), (r, .inr (3, [.ref ro, .ref rn, .ref rr, .int rt, .int fr, .int pr, .int (nI n), .int (nI m)])), (rr, .inl (cI, 5, .inl rd))] H := hP
  have hD : va_D A [(tx, .inr (7, [.ref tb, .ref tt, .int (nI len), .int (nI (ap + zcq (zoD bf len n rd ap) 0)), .int (zft ap (zcq (zoD bf len n rd ap) 0) 0)])), (tb, .inl (cI, 64, .inl bf)), (r, .inr (3, [.ref ro, .ref rn, .ref rr, .int rt, .int fr, .int pr, .int (nI n), .int (nI m)])), (rr, .inl (cI, 5, .inl rd))] := hD
  have h_4 : r_3 = if m < 6 then zrs n rd n else 0 := h_4
  subst h_4
  refine z_top (y := zrs n rd n) (if_pos hm6) ?_
  refine z_callVi (As := [.int (zrs n rd n)]) (rest := []) (ci := 7) (k0 := 0) Z hP hD hS hl.1 (zc_X7_figure l D cI cZ tx tb tt len bf (zoD bf len n rd ap) ap 0 (zrs n rd n) (by omega) (by intro _; exact zoD_0 hn hn1) (by omega)) zm235 zm236 zm2 zm31 zm237 ⟨rfl, zd_X7_figure⟩ ⟨Nat.le_of_ble_eq_true rfl, Nat.le_of_ble_eq_true rfl⟩ ⟨Nat.zero_le _, Nat.zero_le _⟩ [0, 1] rfl (by decide) rfl rfl rfl (fun _ => rfl) rfl (Nat.le_of_ble_eq_true rfl) rfl dX7_readRoad_5 (fun r_5 u H locs h_6 hP hD hS => ?_)
  have hP : va_P D vwCl [(tx, .inr (7, [.ref tb, .ref tt, .int (nI len), .int (nI (ap + zcq (zoD bf len n rd ap) 1)), .int (zft ap (zcq (zoD bf len n rd ap) 1) 1)])), (tb, .inl (cI, 64, .inl bf)), (r, .inr (3, [.ref ro, .ref rn, .ref rr, .int rt, .int fr, .int pr, .int (nI n), .int (nI m)])), (rr, .inl (cI, 5, .inl rd))] H := hP
  have hD : va_D A [(tx, .inr (7, [.ref tb, .ref tt, .int (nI len), .int (nI (ap + zcq (zoD bf len n rd ap) 1)), .int (zft ap (zcq (zoD bf len n rd ap) 1) 1)])), (tb, .inl (cI, 64, .inl bf)), (r, .inr (3, [.ref ro, .ref rn, .ref rr, .int rt, .int fr, .int pr, .int (nI n), .int (nI m)])), (rr, .inl (cI, 5, .inl rd))] := hD
  have h_6 : r_5 = nI (zvd (zoD bf len n rd ap) bf ap 0) := h_6
  subst h_6
  refine lv_istore_n (lv' := [(2, .int (nI (zvd (zoD bf len n rd ap) bf ap 0))), (0, .ref tx), (1, .ref r)]) hx hb dX7_readRoad_8 rfl hl (by decide) rfl (fun ls hl => ?_)
  refine lv_aload_n hx hb dX7_readRoad_9 rfl (lv_at hl 1 rfl) ?_
  refine lv_aload_n hx hb dX7_readRoad_10 rfl (lv_at hl 2 rfl) ?_
  refine lv_iload_n hx hb dX7_readRoad_11 rfl (lv_at hl 0 rfl) ?_
  refine z_callVi (As := [.int (nI (zvd (zoD bf len n rd ap) bf ap 0))]) (rest := [.ref tx]) (ci := 3) (k0 := 0) Z hP hD hS hl.1 (zc_X3_roadEnds l D cI cZ r ro rn rr rt fr pr n m rd (nI (zvd (zoD bf len n rd ap) bf ap 0)) (by omega)) zm280 zm266 zm267 zm32 zm268 ⟨rfl, zd_X3_roadEnds⟩ ⟨Nat.le_of_ble_eq_true rfl, Nat.le_of_ble_eq_true rfl⟩ ⟨Nat.zero_le _, Nat.zero_le _⟩ [2, 3] rfl (by decide) rfl rfl rfl (fun _ => rfl) rfl (Nat.le_of_ble_eq_true rfl) rfl dX7_readRoad_12 (fun r_7 u H locs h_8 hP hD hS => ?_)
  have hP : va_P D vwCl [(tx, .inr (7, [.ref tb, .ref tt, .int (nI len), .int (nI (ap + zcq (zoD bf len n rd ap) 1)), .int (zft ap (zcq (zoD bf len n rd ap) 1) 1)])), (tb, .inl (cI, 64, .inl bf)), (r, .inr (3, [.ref ro, .ref rn, .ref rr, .int rt, .int fr, .int pr, .int (nI n), .int (nI m)])), (rr, .inl (cI, 5, .inl rd))] H := hP
  have hD : va_D A [(tx, .inr (7, [.ref tb, .ref tt, .int (nI len), .int (nI (ap + zcq (zoD bf len n rd ap) 1)), .int (zft ap (zcq (zoD bf len n rd ap) 1) 1)])), (tb, .inl (cI, 64, .inl bf)), (r, .inr (3, [.ref ro, .ref rn, .ref rr, .int rt, .int fr, .int pr, .int (nI n), .int (nI m)])), (rr, .inl (cI, 5, .inl rd))] := hD
  have h_8 : r_7 = zre n rd (nI (zvd (zoD bf len n rd ap) bf ap 0)) := h_8
  subst h_8
  refine z_callVi (As := [.int (zre n rd (nI (zvd (zoD bf len n rd ap) bf ap 0)))]) (rest := []) (ci := 7) (k0 := 0) Z hP hD hS hl.1 (zc_X7_figure l D cI cZ tx tb tt len bf (zoD bf len n rd ap) ap 1 (zre n rd (nI (zvd (zoD bf len n rd ap) bf ap 0))) (by omega) (by intro hz; have hz0 := zcq_i (j := 0) hz; have hd0 := zoD_0d hn hn1 hz0.2; rw [show zvd (zoD bf len n rd ap) bf ap 0 = zdg bf ap from zvd_y (j := 0) hz, zre_nat hd0.2.1 (by omega)]; exact zoD_1 hn hn1 hrw hd0.2.1) (by omega)) zm235 zm236 zm2 zm31 zm237 ⟨rfl, zd_X7_figure⟩ ⟨Nat.le_of_ble_eq_true rfl, Nat.le_of_ble_eq_true rfl⟩ ⟨Nat.zero_le _, Nat.zero_le _⟩ [0, 1] rfl (by decide) rfl rfl rfl (fun _ => rfl) rfl (Nat.le_of_ble_eq_true rfl) rfl dX7_readRoad_15 (fun r_9 u H locs h_10 hP hD hS => ?_)
  have hP : va_P D vwCl [(tx, .inr (7, [.ref tb, .ref tt, .int (nI len), .int (nI (ap + zcq (zoD bf len n rd ap) 2)), .int (zft ap (zcq (zoD bf len n rd ap) 2) 2)])), (tb, .inl (cI, 64, .inl bf)), (r, .inr (3, [.ref ro, .ref rn, .ref rr, .int rt, .int fr, .int pr, .int (nI n), .int (nI m)])), (rr, .inl (cI, 5, .inl rd))] H := hP
  have hD : va_D A [(tx, .inr (7, [.ref tb, .ref tt, .int (nI len), .int (nI (ap + zcq (zoD bf len n rd ap) 2)), .int (zft ap (zcq (zoD bf len n rd ap) 2) 2)])), (tb, .inl (cI, 64, .inl bf)), (r, .inr (3, [.ref ro, .ref rn, .ref rr, .int rt, .int fr, .int pr, .int (nI n), .int (nI m)])), (rr, .inl (cI, 5, .inl rd))] := hD
  have h_10 : r_9 = nI (zvd (zoD bf len n rd ap) bf ap 1) := h_10
  subst h_10
  refine lv_istore_n (lv' := [(3, .int (nI (zvd (zoD bf len n rd ap) bf ap 1))), (2, .int (nI (zvd (zoD bf len n rd ap) bf ap 0))), (0, .ref tx), (1, .ref r)]) hx hb dX7_readRoad_18 rfl hl (by decide) rfl (fun ls hl => ?_)
  refine lv_aload_n hx hb dX7_readRoad_19 rfl (lv_at hl 2 rfl) ?_
  refine z_get (ci := 7) (v := .int (zft ap (zcq (zoD bf len n rd ap) 2) 2)) Z zin7 hP 0 rfl rfl 4 (by decide) zm60 rfl rfl dX7_readRoad_20 ?_
  refine lv_bipush (v := -9) hx hb dX7_readRoad_23 (by decide) ?_
  refine lv_icmp_ne (tgt := 34) hx hb dX7_readRoad_25 (by decide) (fun c_11 => ?_) (fun c_11 => ?_)
  · have c_11 : ¬ ((zft ap (zcq (zoD bf len n rd ap) 2) 2) = (-9 : Int32)) := c_11
    have hz2 := zft_n c_11
    have e_12 : nI m = nI (if zcq (zoD bf len n rd ap) 2 = 2 then m + 1 else m) := by first | (rw [if_pos hz2]; done) | (rw [if_neg hz2]; done) | (rw [if_pos hz2]; rfl)
    have hP : va_P D vwCl [(tx, .inr (7, [.ref tb, .ref tt, .int (nI len), .int (nI (ap + zcq (zoD bf len n rd ap) 2)), .int (zft ap (zcq (zoD bf len n rd ap) 2) 2)])), (tb, .inl (cI, 64, .inl bf)), (r, .inr (3, [.ref ro, .ref rn, .ref rr, .int rt, .int fr, .int pr, .int (nI n), .int (nI (if zcq (zoD bf len n rd ap) 2 = 2 then m + 1 else m))])), (rr, .inl (cI, 5, .inl rd))] H := Eq.subst (motive := fun zz_ => va_P D vwCl [(tx, .inr (7, [.ref tb, .ref tt, .int (nI len), .int (nI (ap + zcq (zoD bf len n rd ap) 2)), .int (zft ap (zcq (zoD bf len n rd ap) 2) 2)])), (tb, .inl (cI, 64, .inl bf)), (r, .inr (3, [.ref ro, .ref rn, .ref rr, .int rt, .int fr, .int pr, .int (nI n), .int zz_])), (rr, .inl (cI, 5, .inl rd))] H) e_12 hP
    have e_13 : rd = (if zcq (zoD bf len n rd ap) 2 = 2 then zrdN rd (zdg bf ap) (zdg bf (ap + 1)) else rd) := by first | (rw [if_pos hz2]; done) | (rw [if_neg hz2]; done) | (rw [if_pos hz2]; rfl)
    have hP : va_P D vwCl [(tx, .inr (7, [.ref tb, .ref tt, .int (nI len), .int (nI (ap + zcq (zoD bf len n rd ap) 2)), .int (zft ap (zcq (zoD bf len n rd ap) 2) 2)])), (tb, .inl (cI, 64, .inl bf)), (r, .inr (3, [.ref ro, .ref rn, .ref rr, .int rt, .int fr, .int pr, .int (nI n), .int (nI (if zcq (zoD bf len n rd ap) 2 = 2 then m + 1 else m))])), (rr, .inl (cI, 5, .inl (if zcq (zoD bf len n rd ap) 2 = 2 then zrdN rd (zdg bf ap) (zdg bf (ap + 1)) else rd)))] H := Eq.subst (motive := fun zz_ => va_P D vwCl [(tx, .inr (7, [.ref tb, .ref tt, .int (nI len), .int (nI (ap + zcq (zoD bf len n rd ap) 2)), .int (zft ap (zcq (zoD bf len n rd ap) 2) 2)])), (tb, .inl (cI, 64, .inl bf)), (r, .inr (3, [.ref ro, .ref rn, .ref rr, .int rt, .int fr, .int pr, .int (nI n), .int (nI (if zcq (zoD bf len n rd ap) 2 = 2 then m + 1 else m))])), (rr, .inl (cI, 5, .inl zz_))] H) e_13 hP
    have hD : va_D A [(tx, .inr (7, [.ref tb, .ref tt, .int (nI len), .int (nI (ap + zcq (zoD bf len n rd ap) 2)), .int (zft ap (zcq (zoD bf len n rd ap) 2) 2)])), (tb, .inl (cI, 64, .inl bf)), (r, .inr (3, [.ref ro, .ref rn, .ref rr, .int rt, .int fr, .int pr, .int (nI n), .int (nI (if zcq (zoD bf len n rd ap) 2 = 2 then m + 1 else m))])), (rr, .inl (cI, 5, .inl (if zcq (zoD bf len n rd ap) 2 = 2 then zrdN rd (zdg bf ap) (zdg bf (ap + 1)) else rd)))] := zD_of hD rfl
    exact z_vret Z () trivial hP hS dX7_readRoad_34
  · have c_11 : (zft ap (zcq (zoD bf len n rd ap) 2) 2) = (-9 : Int32) := c_11
    have hz2 := zft_9 (by have := zcq_le (zoD bf len n rd ap) 2; omega) c_11
    have hz1 := zcq_i (j := 1) hz2
    have hz0 := zcq_i (j := 0) hz1.1
    have hd0 := zoD_0d hn hn1 hz0.2
    have hd1 := zoD_1d hn hn1 hz1.2
    have hE : (nI (zvd (zoD bf len n rd ap) bf ap 0) : Int32) = (nI (zdg bf ap)) := by rw [zvd_y (j := 0) hz1.1]; rfl
    have hl : lv_has ls 4 [(3, .int (nI (zvd (zoD bf len n rd ap) bf ap 1))), (2, .int (nI (zdg bf ap))), (0, .ref tx), (1, .ref r)] := Eq.subst (motive := fun zz_ => lv_has ls 4 [(3, .int (nI (zvd (zoD bf len n rd ap) bf ap 1))), (2, .int zz_), (0, .ref tx), (1, .ref r)]) hE hl
    have hE : (nI (zvd (zoD bf len n rd ap) bf ap 1) : Int32) = (nI (zdg bf (ap + 1))) := by rw [zvd_y (j := 1) hz2]
    have hl : lv_has ls 4 [(3, .int (nI (zdg bf (ap + 1)))), (2, .int (nI (zdg bf ap))), (0, .ref tx), (1, .ref r)] := Eq.subst (motive := fun zz_ => lv_has ls 4 [(3, .int zz_), (2, .int (nI (zdg bf ap))), (0, .ref tx), (1, .ref r)]) hE hl
    refine lv_aload_n hx hb dX7_readRoad_28 rfl (lv_at hl 3 rfl) ?_
    refine lv_iload_n hx hb dX7_readRoad_29 rfl (lv_at hl 1 rfl) ?_
    refine lv_iload_n hx hb dX7_readRoad_30 rfl (lv_at hl 0 rfl) ?_
    refine z_callVv (As := [.int (nI (zdg bf ap)), .int (nI (zdg bf (ap + 1)))]) (rest := []) (ci := 3) (k0 := 0) Z hP hD hS hl.1 (zc_X3_addRoad l D cI cZ r ro rn rr rt fr pr n m rd (zdg bf ap) (zdg bf (ap + 1)) (by omega) (by omega) (by omega)) zm281 zm282 zm283 zm32 zm284 ⟨rfl, zd_X3_addRoad⟩ ⟨Nat.le_of_ble_eq_true rfl, Nat.le_of_ble_eq_true rfl⟩ ⟨Nat.zero_le _, Nat.zero_le _⟩ [2, 3] rfl (by decide) rfl rfl rfl (fun _ => rfl) rfl (Nat.le_of_ble_eq_true rfl) rfl dX7_readRoad_31 (fun u H locs h_15 hP hD hS => ?_)
    have hP : va_P D vwCl [(tx, .inr (7, [.ref tb, .ref tt, .int (nI len), .int (nI (ap + zcq (zoD bf len n rd ap) 2)), .int (zft ap (zcq (zoD bf len n rd ap) 2) 2)])), (tb, .inl (cI, 64, .inl bf)), (r, .inr (3, [.ref ro, .ref rn, .ref rr, .int rt, .int fr, .int pr, .int (nI n), .int (nI (m + 1))])), (rr, .inl (cI, 5, .inl (upd (upd rd (zdg bf ap) (rd (zdg bf ap) ||| zbit (zdg bf (ap + 1)))) (zdg bf (ap + 1)) (upd rd (zdg bf ap) (rd (zdg bf ap) ||| zbit (zdg bf (ap + 1))) (zdg bf (ap + 1)) ||| zbit (zdg bf ap)))))] H := hP
    have hD : va_D A [(tx, .inr (7, [.ref tb, .ref tt, .int (nI len), .int (nI (ap + zcq (zoD bf len n rd ap) 2)), .int (zft ap (zcq (zoD bf len n rd ap) 2) 2)])), (tb, .inl (cI, 64, .inl bf)), (r, .inr (3, [.ref ro, .ref rn, .ref rr, .int rt, .int fr, .int pr, .int (nI n), .int (nI (m + 1))])), (rr, .inl (cI, 5, .inl (upd (upd rd (zdg bf ap) (rd (zdg bf ap) ||| zbit (zdg bf (ap + 1)))) (zdg bf (ap + 1)) (upd rd (zdg bf ap) (rd (zdg bf ap) ||| zbit (zdg bf (ap + 1))) (zdg bf (ap + 1)) ||| zbit (zdg bf ap)))))] := hD
    have e_16 : nI (m + 1) = nI (if zcq (zoD bf len n rd ap) 2 = 2 then m + 1 else m) := by first | (rw [if_pos hz2]; done) | (rw [if_neg hz2]; done) | (rw [if_pos hz2]; rfl)
    have hP : va_P D vwCl [(tx, .inr (7, [.ref tb, .ref tt, .int (nI len), .int (nI (ap + zcq (zoD bf len n rd ap) 2)), .int (zft ap (zcq (zoD bf len n rd ap) 2) 2)])), (tb, .inl (cI, 64, .inl bf)), (r, .inr (3, [.ref ro, .ref rn, .ref rr, .int rt, .int fr, .int pr, .int (nI n), .int (nI (if zcq (zoD bf len n rd ap) 2 = 2 then m + 1 else m))])), (rr, .inl (cI, 5, .inl (upd (upd rd (zdg bf ap) (rd (zdg bf ap) ||| zbit (zdg bf (ap + 1)))) (zdg bf (ap + 1)) (upd rd (zdg bf ap) (rd (zdg bf ap) ||| zbit (zdg bf (ap + 1))) (zdg bf (ap + 1)) ||| zbit (zdg bf ap)))))] H := Eq.subst (motive := fun zz_ => va_P D vwCl [(tx, .inr (7, [.ref tb, .ref tt, .int (nI len), .int (nI (ap + zcq (zoD bf len n rd ap) 2)), .int (zft ap (zcq (zoD bf len n rd ap) 2) 2)])), (tb, .inl (cI, 64, .inl bf)), (r, .inr (3, [.ref ro, .ref rn, .ref rr, .int rt, .int fr, .int pr, .int (nI n), .int zz_])), (rr, .inl (cI, 5, .inl (upd (upd rd (zdg bf ap) (rd (zdg bf ap) ||| zbit (zdg bf (ap + 1)))) (zdg bf (ap + 1)) (upd rd (zdg bf ap) (rd (zdg bf ap) ||| zbit (zdg bf (ap + 1))) (zdg bf (ap + 1)) ||| zbit (zdg bf ap)))))] H) e_16 hP
    have e_17 : upd (upd rd (zdg bf ap) (rd (zdg bf ap) ||| zbit (zdg bf (ap + 1)))) (zdg bf (ap + 1)) (upd rd (zdg bf ap) (rd (zdg bf ap) ||| zbit (zdg bf (ap + 1))) (zdg bf (ap + 1)) ||| zbit (zdg bf ap)) = (if zcq (zoD bf len n rd ap) 2 = 2 then zrdN rd (zdg bf ap) (zdg bf (ap + 1)) else rd) := by first | (rw [if_pos hz2]; done) | (rw [if_neg hz2]; done) | (rw [if_pos hz2]; rfl)
    have hP : va_P D vwCl [(tx, .inr (7, [.ref tb, .ref tt, .int (nI len), .int (nI (ap + zcq (zoD bf len n rd ap) 2)), .int (zft ap (zcq (zoD bf len n rd ap) 2) 2)])), (tb, .inl (cI, 64, .inl bf)), (r, .inr (3, [.ref ro, .ref rn, .ref rr, .int rt, .int fr, .int pr, .int (nI n), .int (nI (if zcq (zoD bf len n rd ap) 2 = 2 then m + 1 else m))])), (rr, .inl (cI, 5, .inl (if zcq (zoD bf len n rd ap) 2 = 2 then zrdN rd (zdg bf ap) (zdg bf (ap + 1)) else rd)))] H := Eq.subst (motive := fun zz_ => va_P D vwCl [(tx, .inr (7, [.ref tb, .ref tt, .int (nI len), .int (nI (ap + zcq (zoD bf len n rd ap) 2)), .int (zft ap (zcq (zoD bf len n rd ap) 2) 2)])), (tb, .inl (cI, 64, .inl bf)), (r, .inr (3, [.ref ro, .ref rn, .ref rr, .int rt, .int fr, .int pr, .int (nI n), .int (nI (if zcq (zoD bf len n rd ap) 2 = 2 then m + 1 else m))])), (rr, .inl (cI, 5, .inl zz_))] H) e_17 hP
    have hD : va_D A [(tx, .inr (7, [.ref tb, .ref tt, .int (nI len), .int (nI (ap + zcq (zoD bf len n rd ap) 2)), .int (zft ap (zcq (zoD bf len n rd ap) 2) 2)])), (tb, .inl (cI, 64, .inl bf)), (r, .inr (3, [.ref ro, .ref rn, .ref rr, .int rt, .int fr, .int pr, .int (nI n), .int (nI (if zcq (zoD bf len n rd ap) 2 = 2 then m + 1 else m))])), (rr, .inl (cI, 5, .inl (if zcq (zoD bf len n rd ap) 2 = 2 then zrdN rd (zdg bf ap) (zdg bf (ap + 1)) else rd)))] := zD_of hD rfl
    exact z_vret Z () trivial hP hS dX7_readRoad_34
