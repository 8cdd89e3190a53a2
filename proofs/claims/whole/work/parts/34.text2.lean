theorem zft_A {bf : Nat → Int32} {len : Nat} {s : zSt} {a c j : Nat} (h : zsA bf len s = decide (c = j)) (h2 : zsQ bf len s = a + c) : zft a c j = if zsA bf len s = true then -9 else nI (zsQ bf len s) := by
  unfold zft; rw [h, h2]
  by_cases q : c = j
  · rw [if_pos q, if_pos (decide_eq_true q)]
  · rw [if_neg q, if_neg (by rw [decide_eq_true_eq]; exact q)]
theorem zsI_P {bf : Nat → Int32} {len : Nat} {s : zSt} {f2 nv : Nat → Int32} (h : zisP bf s) (hA : zsA bf len s = true) (hf : zcq (zoP bf len (zsp s + 1)) 6 = 6 → f2 = zpF (zsf s) (zsn s) bf (zsp s + 1)) (hv : ∀ i, i < zsn s → nv i = zsv s i) : zsn s + 1 = zsn (zsS bf s) ∧ zsm s = zsm (zsS bf s) ∧ zsd s = zsd (zsS bf s) ∧ f2 = zsf (zsS bf s) ∧ ∀ i, i < zsn (zsS bf s) → upd nv (zsn s) (nI (zvd (zoP bf len (zsp s + 1)) bf (zsp s + 1) 5)) i = zsv (zsS bf s) i := by
  have h6 : zcq (zoP bf len (zsp s + 1)) 6 = 6 := by rw [zsA_P h, decide_eq_true_eq] at hA; exact hA
  rw [zsS_P h, zvd_y (j := 5) h6]
  refine ⟨rfl, rfl, rfl, hf h6, fun i hi => ?_⟩
  have hi : i < zsn s + 1 := hi
  show _ = upd (zsv s) (zsn s) (nI (zdg bf (zsp s + 6))) i
  by_cases q : i = zsn s
  · rw [q, pk_us, pk_us]
  · rw [pk_un q, pk_un q]; exact hv i (by omega)
theorem zsI_R {bf : Nat → Int32} {len : Nat} {s : zSt} {nv : Nat → Int32} (h : ¬ zisP bf s) (h1 : zisR bf s) (hA : zsA bf len s = true) (hv : ∀ i, i < zsn s → nv i = zsv s i) : (if zcq (zoD bf len (zsn s) (zsd s) (zsp s + 1)) 2 = 2 then zsm s + 1 else zsm s) = zsm (zsS bf s) ∧ (if zcq (zoD bf len (zsn s) (zsd s) (zsp s + 1)) 2 = 2 then zrdN (zsd s) (zdg bf (zsp s + 1)) (zdg bf (zsp s + 1 + 1)) else zsd s) = zsd (zsS bf s) ∧ ∀ i, i < zsn (zsS bf s) → nv i = zsv (zsS bf s) i := by
  have h6 : zcq (zoD bf len (zsn s) (zsd s) (zsp s + 1)) 2 = 2 := by rw [zsA_R h h1, decide_eq_true_eq] at hA; exact hA
  rw [zsS_R h, if_pos h6, if_pos h6]
  exact ⟨rfl, rfl, hv⟩
theorem zs_no {n m : Nat} {rd : Nat → Int32} {x : Int32} (hn : n ≤ 5) (h : ¬ x = 82 ∨ (if m < 6 then zrs n rd n else 0) = 0) : ¬ (x = 82 ∧ m < 6 ∧ zhoB n rd n = true) := by
  rintro ⟨h1, h2, h3⟩
  rcases h with h | h
  · exact h h1
  · rw [if_pos h2] at h
    rw [(zrs_0 hn).mp h] at h3; exact absurd h3 (by decide)
theorem zs_yes {n m : Nat} {rd : Nat → Int32} (hn : n ≤ 5) (h : ¬ (if m < 6 then zrs n rd n else 0) = 0) : m < 6 ∧ zhoB n rd n = true := by
  by_cases q : m < 6
  · refine ⟨q, ?_⟩
    rw [if_pos q] at h
    cases e : zhoB n rd n with
    | true => rfl
    | false => exact absurd ((zrs_0 hn).mpr e) h
  · rw [if_neg q] at h; exact absurd rfl h
theorem zS_end {bf : Nat → Int32} {len t : Nat} {s : zSt} (h : zend bf len (64 - t) s = zS bf len) (h2 : ¬ (zsp s < len ∧ zsA bf len s = true)) : zS bf len = s := by rw [← h, zend_x h2]
theorem zS_64 {bf : Nat → Int32} {len t : Nat} {s : zSt} (h : zend bf len (64 - t) s = zS bf len) (h2 : 64 ≤ t) : zS bf len = s := by rw [← h, show 64 - t = 0 by omega]; rfl
theorem zS_step {bf : Nat → Int32} {len t : Nat} {s : zSt} (h : zend bf len (64 - t) s = zS bf len) (ht : t < 64) (h1 : zsp s < len) (h2 : zsA bf len s = true) : zend bf len (64 - (t + 1)) (zsS bf s) = zS bf len := by
  rw [← h, show 64 - t = (64 - (t + 1)) + 1 by omega, zend_s, if_pos ⟨h1, h2⟩]
theorem zsQ_lt {bf : Nat → Int32} {len : Nat} {s : zSt} : zsQ bf len s ≤ zsp s + 7 := by
  have h1 := zcq_le (zoP bf len (zsp s + 1)) 6
  have h2 := zcq_le (zoD bf len (zsn s) (zsd s) (zsp s + 1)) 2
  unfold zsQ; split
  · omega
  · split <;> omega
theorem zF0_eq {f : Nat → Int32} : ∀ j, j < 36 → zfg (zcl f 36) 5 j = zF0 j := by
  intro j hj
  unfold zfg zcl zF0
  by_cases q : 25 ≤ j ∧ j < 35
  · rw [if_pos (by omega), if_pos q]
  · rw [if_neg (by omega), if_neg q, if_pos hj]
theorem zcl0_eq {f : Nat → Int32} : ∀ j, j < 5 → zcl f 5 j = zsd zs0 j := by
  intro j hj
  unfold zcl; rw [if_pos hj]; rfl
theorem dX7_readPart_0 : decode cX7_readPart 0 = .ok (.aload_n 0, 1) := by decide +kernel
theorem dX7_readPart_1 : decode cX7_readPart 1 = .ok (.bipush 80, 2) := by decide +kernel
theorem dX7_readPart_3 : decode cX7_readPart 3 = .ok (.invokevirtual 46, 3) := by decide +kernel
theorem dX7_readPart_6 : decode cX7_readPart 6 = .ok (.ifCond .eq 30, 3) := by decide +kernel
theorem dX7_readPart_9 : decode cX7_readPart 9 = .ok (.aload_n 1, 1) := by decide +kernel
theorem dX7_readPart_10 : decode cX7_readPart 10 = .ok (.getfield 69, 3) := by decide +kernel
theorem dX7_readPart_13 : decode cX7_readPart 13 = .ok (.iconst 5, 1) := by decide +kernel
theorem dX7_readPart_14 : decode cX7_readPart 14 = .ok (.if_icmp .ge 22, 3) := by decide +kernel
theorem dX7_readPart_17 : decode cX7_readPart 17 = .ok (.aload_n 0, 1) := by decide +kernel
theorem dX7_readPart_18 : decode cX7_readPart 18 = .ok (.dup, 1) := by decide +kernel
theorem dX7_readPart_19 : decode cX7_readPart 19 = .ok (.getfield 22, 3) := by decide +kernel
theorem dX7_readPart_22 : decode cX7_readPart 22 = .ok (.iconst 1, 1) := by decide +kernel
theorem dX7_readPart_23 : decode cX7_readPart 23 = .ok (.iadd, 1) := by decide +kernel
theorem dX7_readPart_24 : decode cX7_readPart 24 = .ok (.putfield 22, 3) := by decide +kernel
theorem dX7_readPart_27 : decode cX7_readPart 27 = .ok (.aload_n 0, 1) := by decide +kernel
theorem dX7_readPart_28 : decode cX7_readPart 28 = .ok (.aload_n 1, 1) := by decide +kernel
theorem dX7_readPart_29 : decode cX7_readPart 29 = .ok (.aload_n 2, 1) := by decide +kernel
theorem dX7_readPart_30 : decode cX7_readPart 30 = .ok (.invokevirtual 72, 3) := by decide +kernel
theorem dX7_readPart_33 : decode cX7_readPart 33 = .ok (.goto 45, 3) := by decide +kernel
theorem dX7_readPart_36 : decode cX7_readPart 36 = .ok (.aload_n 0, 1) := by decide +kernel
theorem dX7_readPart_37 : decode cX7_readPart 37 = .ok (.bipush 82, 2) := by decide +kernel
theorem dX7_readPart_39 : decode cX7_readPart 39 = .ok (.invokevirtual 46, 3) := by decide +kernel
theorem dX7_readPart_42 : decode cX7_readPart 42 = .ok (.ifCond .eq 28, 3) := by decide +kernel
theorem dX7_readPart_45 : decode cX7_readPart 45 = .ok (.aload_n 1, 1) := by decide +kernel
theorem dX7_readPart_46 : decode cX7_readPart 46 = .ok (.invokevirtual 75, 3) := by decide +kernel
theorem dX7_readPart_49 : decode cX7_readPart 49 = .ok (.ifCond .eq 21, 3) := by decide +kernel
theorem dX7_readPart_52 : decode cX7_readPart 52 = .ok (.aload_n 0, 1) := by decide +kernel
theorem dX7_readPart_53 : decode cX7_readPart 53 = .ok (.dup, 1) := by decide +kernel
theorem dX7_readPart_54 : decode cX7_readPart 54 = .ok (.getfield 22, 3) := by decide +kernel
theorem dX7_readPart_57 : decode cX7_readPart 57 = .ok (.iconst 1, 1) := by decide +kernel
theorem dX7_readPart_58 : decode cX7_readPart 58 = .ok (.iadd, 1) := by decide +kernel
theorem dX7_readPart_59 : decode cX7_readPart 59 = .ok (.putfield 22, 3) := by decide +kernel
theorem dX7_readPart_62 : decode cX7_readPart 62 = .ok (.aload_n 0, 1) := by decide +kernel
theorem dX7_readPart_63 : decode cX7_readPart 63 = .ok (.aload_n 1, 1) := by decide +kernel
theorem dX7_readPart_64 : decode cX7_readPart 64 = .ok (.invokevirtual 79, 3) := by decide +kernel
theorem dX7_readPart_67 : decode cX7_readPart 67 = .ok (.goto 11, 3) := by decide +kernel
theorem dX7_readPart_70 : decode cX7_readPart 70 = .ok (.aload_n 0, 1) := by decide +kernel
theorem dX7_readPart_71 : decode cX7_readPart 71 = .ok (.aload_n 0, 1) := by decide +kernel
theorem dX7_readPart_72 : decode cX7_readPart 72 = .ok (.getfield 22, 3) := by decide +kernel
theorem dX7_readPart_75 : decode cX7_readPart 75 = .ok (.putfield 25, 3) := by decide +kernel
theorem dX7_readPart_78 : decode cX7_readPart 78 = .ok (.return_, 1) := by decide +kernel
theorem zd_X7_readPart : yX7_readPart.cls ≠ "java/lang/invoke/MethodHandle" ∧ yX7_readPart.cls ≠ "java/lang/invoke/VarHandle" ∧ (parseMethodDescriptor yX7_readPart.desc).map (fun d => d.parameters.length) = some 2 := by decide +kernel
set_option maxHeartbeats 4000000 in
set_option maxRecDepth 100000 in
theorem zc_X7_readPart (l : Launch) (D : va_G) (cI cZ : ClassId) (tx : Nat) (tb : Nat) (tt : Nat) (len : Nat) (bf : Nat → Int32) (r : Nat) (ro : Nat) (rn : Nat) (rr : Nat) (rt : Int32) (fr : Int32) (pr : Int32) (a : Nat) (b : Nat) (s8 : zSt) (te : Nat → Int32) (nv : Nat → Int32) (hlen : len ≤ 64) (hI : zsI len s8) (hlt : zsp s8 < len) (hnv : ∀ i, i < zsn s8 → nv i = zsv s8 i) : zV l yX7_readPart cX7_readPart 3 4 87 D cI cZ [.ref tx, .ref r, .ref a] [(tx, .inr (7, [.ref tb, .ref tt, .int (nI len), .int (nI (zsp s8)), .int (-9)])), (tb, .inl (cI, 64, .inl bf)), (tt, .inl (cI, 4, .inl te)), (r, .inr (3, [.ref ro, .ref rn, .ref rr, .int rt, .int fr, .int pr, .int (nI (zsn s8)), .int (nI (zsm s8))])), (rn, .inl (cI, 5, .inl nv)), (rr, .inl (cI, 5, .inl (zsd s8))), (a, .inr (6, [.ref b])), (b, .inl (cI, 36, .inl (zsf s8)))] (fun (u : (Nat → Int32) × Nat × Nat × (Nat → Int32) × (Nat → Int32) × (Nat → Int32)) => zsA bf len s8 = true → u.2.1 = zsn (zsS bf s8) ∧ u.2.2.1 = zsm (zsS bf s8) ∧ u.2.2.2.2.1 = zsd (zsS bf s8) ∧ u.2.2.2.2.2 = zsf (zsS bf s8) ∧ ∀ i, i < zsn (zsS bf s8) → u.2.2.2.1 i = zsv (zsS bf s8) i) (fun (u : (Nat → Int32) × Nat × Nat × (Nat → Int32) × (Nat → Int32) × (Nat → Int32)) => [(tx, .inr (7, [.ref tb, .ref tt, .int (nI len), .int (nI (zsQ bf len s8)), .int (if zsA bf len s8 = true then -9 else nI (zsQ bf len s8))])), (tb, .inl (cI, 64, .inl bf)), (tt, .inl (cI, 4, .inl u.1)), (r, .inr (3, [.ref ro, .ref rn, .ref rr, .int rt, .int fr, .int pr, .int (nI u.2.1), .int (nI u.2.2.1)])), (rn, .inl (cI, 5, .inl u.2.2.2.1)), (rr, .inl (cI, 5, .inl u.2.2.2.2.1)), (a, .inr (6, [.ref b])), (b, .inl (cI, 36, .inl u.2.2.2.2.2))]) := by
  refine zV_of (by decide) (Nat.le_of_ble_eq_true rfl) ?_
  intro pP eE sS mM aA bB mT cC A ls Z hP hD hS hl
  have hx := Z.1
  have hb := Z.2.1
  have hown := Z.2.2.2.2.2.1
  have hts := Z.2.2.2.2.1
  have Z : zAt pP sS mM aA mT cC D cI cZ A "SurpriseTax$Text" cX7_readPart 3 none := Z
  have hl : lv_has ls 3 [(0, .ref tx), (1, .ref r), (2, .ref a)] := hl
  obtain ⟨H, hH⟩ : ∃ H, H = sS.heap := ⟨_, rfl⟩
  have hP : va_P D vwCl [(tx, .inr (7, [.ref tb, .ref tt, .int (nI len), .int (nI (zsp s8)), .int (-9)])), (tb, .inl (cI, 64, .inl bf)), (tt, .inl (cI, 4, .inl te)), (r, .inr (3, [.ref ro, .ref rn, .ref rr, .int rt, .int fr, .int pr, .int (nI (zsn s8)), .int (nI (zsm s8))])), (rn, .inl (cI, 5, .inl nv)), (rr, .inl (cI, 5, .inl (zsd s8))), (a, .inr (6, [.ref b])), (b, .inl (cI, 36, .inl (zsf s8)))] H := by rw [hH]; exact hP
  have hS : va_S A sS.heap H [] := by rw [hH]; exact hS
  rw [← hH]
  clear hH
  obtain ⟨locs, hlo⟩ : ∃ q : List Loc, q = [] := ⟨_, rfl⟩
  rw [← hlo] at hS ⊢
  clear hlo
  have hn := hI.2.1
  have hm6 := hI.2.2.1
  refine lv_aload_n hx hb dX7_readPart_0 rfl (lv_at hl 0 rfl) ?_
  refine lv_bipush (v := nI 80) hx hb dX7_readPart_1 (by decide) ?_
  refine z_callVi (As := [.int (nI 80)]) (rest := []) (ci := 7) (k0 := 0) Z hP hD hS hl.1 (zc_X7_comes l D cI cZ tx tb tt len (zsp s8) (-9) bf (nI 80) (by omega) (by omega)) zm232 zm233 zm1 zm31 zm234 ⟨rfl, zd_X7_comes⟩ ⟨Nat.le_of_ble_eq_true rfl, Nat.le_of_ble_eq_true rfl⟩ ⟨Nat.zero_le _, Nat.zero_le _⟩ [0, 1] rfl (by decide) rfl rfl rfl (fun _ => rfl) rfl (Nat.le_of_ble_eq_true rfl) rfl dX7_readPart_3 (fun r_1 u H locs h_2 hP hD hS => ?_)
  have hP : va_P D vwCl [(tx, .inr (7, [.ref tb, .ref tt, .int (nI len), .int (nI (zsp s8)), .int (-9)])), (tb, .inl (cI, 64, .inl bf)), (tt, .inl (cI, 4, .inl te)), (r, .inr (3, [.ref ro, .ref rn, .ref rr, .int rt, .int fr, .int pr, .int (nI (zsn s8)), .int (nI (zsm s8))])), (rn, .inl (cI, 5, .inl nv)), (rr, .inl (cI, 5, .inl (zsd s8))), (a, .inr (6, [.ref b])), (b, .inl (cI, 36, .inl (zsf s8)))] H := hP
  have hD : va_D A [(tx, .inr (7, [.ref tb, .ref tt, .int (nI len), .int (nI (zsp s8)), .int (-9)])), (tb, .inl (cI, 64, .inl bf)), (tt, .inl (cI, 4, .inl te)), (r, .inr (3, [.ref ro, .ref rn, .ref rr, .int rt, .int fr, .int pr, .int (nI (zsn s8)), .int (nI (zsm s8))])), (rn, .inl (cI, 5, .inl nv)), (rr, .inl (cI, 5, .inl (zsd s8))), (a, .inr (6, [.ref b])), (b, .inl (cI, 36, .inl (zsf s8)))] := hD
  have h_2 : r_1 = if (zsp s8) < len ∧ bf (zsp s8) = (nI 80) then 1 else 0 := h_2
  subst h_2
  refine lv_if_eq (tgt := 36) hx hb dX7_readPart_6 (by decide) (fun c_3 => ?_) (fun c_3 => ?_)
  · have c_3 := zb0 c_3
    have hq9 : ¬ zisP bf s8 := fun z => c_3 ⟨hlt, z.1⟩
    refine lv_aload_n hx hb dX7_readPart_36 rfl (lv_at hl 0 rfl) ?_
    refine lv_bipush (v := nI 82) hx hb dX7_readPart_37 (by decide) ?_
    refine z_callVi (As := [.int (nI 82)]) (rest := []) (ci := 7) (k0 := 0) Z hP hD hS hl.1 (zc_X7_comes l D cI cZ tx tb tt len (zsp s8) (-9) bf (nI 82) (by omega) (by omega)) zm232 zm233 zm1 zm31 zm234 ⟨rfl, zd_X7_comes⟩ ⟨Nat.le_of_ble_eq_true rfl, Nat.le_of_ble_eq_true rfl⟩ ⟨Nat.zero_le _, Nat.zero_le _⟩ [0, 1] rfl (by decide) rfl rfl rfl (fun _ => rfl) rfl (Nat.le_of_ble_eq_true rfl) rfl dX7_readPart_39 (fun r_4 u H locs h_5 hP hD hS => ?_)
    have hP : va_P D vwCl [(tx, .inr (7, [.ref tb, .ref tt, .int (nI len), .int (nI (zsp s8)), .int (-9)])), (tb, .inl (cI, 64, .inl bf)), (tt, .inl (cI, 4, .inl te)), (r, .inr (3, [.ref ro, .ref rn, .ref rr, .int rt, .int fr, .int pr, .int (nI (zsn s8)), .int (nI (zsm s8))])), (rn, .inl (cI, 5, .inl nv)), (rr, .inl (cI, 5, .inl (zsd s8))), (a, .inr (6, [.ref b])), (b, .inl (cI, 36, .inl (zsf s8)))] H := hP
    have hD : va_D A [(tx, .inr (7, [.ref tb, .ref tt, .int (nI len), .int (nI (zsp s8)), .int (-9)])), (tb, .inl (cI, 64, .inl bf)), (tt, .inl (cI, 4, .inl te)), (r, .inr (3, [.ref ro, .ref rn, .ref rr, .int rt, .int fr, .int pr, .int (nI (zsn s8)), .int (nI (zsm s8))])), (rn, .inl (cI, 5, .inl nv)), (rr, .inl (cI, 5, .inl (zsd s8))), (a, .inr (6, [.ref b])), (b, .inl (cI, 36, .inl (zsf s8)))] := hD
    have h_5 : r_4 = if (zsp s8) < len ∧ bf (zsp s8) = (nI 82) then 1 else 0 := h_5
    subst h_5
    refine lv_if_eq (tgt := 70) hx hb dX7_readPart_42 (by decide) (fun c_6 => ?_) (fun c_6 => ?_)
    · have c_6 := zb0 c_6
      have hr9 : ¬ zisR bf s8 := zs_no hn (Or.inl (fun z => c_6 ⟨hlt, z⟩))
      have hqa := zsA_n (len := len) hq9 hr9
      have hqq := zsQ_n (len := len) hq9 hr9
      refine lv_aload_n hx hb dX7_readPart_70 rfl (lv_at hl 0 rfl) ?_
      refine lv_aload_n hx hb dX7_readPart_71 rfl (lv_at hl 0 rfl) ?_
      refine z_get (ci := 7) (v := .int (nI (zsp s8))) Z zin7 hP 0 rfl rfl 3 (by decide) zm59 rfl rfl dX7_readPart_72 ?_
      refine z_put (ci := 7) (v := .int (nI (zsp s8))) Z zin7 tyX7 tyX7_ok nmX7 hP hD hS 0 rfl rfl 4 (by decide) zm60 rfl rfl rfl rfl (Nat.le_of_ble_eq_true rfl) dX7_readPart_75 (fun H locs hP hD hS => ?_)
      have hP : va_P D vwCl [(tx, .inr (7, [.ref tb, .ref tt, .int (nI len), .int (nI (zsp s8)), .int (nI (zsp s8))])), (tb, .inl (cI, 64, .inl bf)), (tt, .inl (cI, 4, .inl te)), (r, .inr (3, [.ref ro, .ref rn, .ref rr, .int rt, .int fr, .int pr, .int (nI (zsn s8)), .int (nI (zsm s8))])), (rn, .inl (cI, 5, .inl nv)), (rr, .inl (cI, 5, .inl (zsd s8))), (a, .inr (6, [.ref b])), (b, .inl (cI, 36, .inl (zsf s8)))] H := hP
      have hD : va_D A [(tx, .inr (7, [.ref tb, .ref tt, .int (nI len), .int (nI (zsp s8)), .int (nI (zsp s8))])), (tb, .inl (cI, 64, .inl bf)), (tt, .inl (cI, 4, .inl te)), (r, .inr (3, [.ref ro, .ref rn, .ref rr, .int rt, .int fr, .int pr, .int (nI (zsn s8)), .int (nI (zsm s8))])), (rn, .inl (cI, 5, .inl nv)), (rr, .inl (cI, 5, .inl (zsd s8))), (a, .inr (6, [.ref b])), (b, .inl (cI, 36, .inl (zsf s8)))] := hD
      have e_7 : nI (zsp s8) = nI (zsQ bf len s8) := by first | (rw [hqq]; done) | exact zft_A hqa hqq | (rw [hqa, hqq]; rfl)
      have hP : va_P D vwCl [(tx, .inr (7, [.ref tb, .ref tt, .int (nI len), .int (nI (zsQ bf len s8)), .int (nI (zsp s8))])), (tb, .inl (cI, 64, .inl bf)), (tt, .inl (cI, 4, .inl te)), (r, .inr (3, [.ref ro, .ref rn, .ref rr, .int rt, .int fr, .int pr, .int (nI (zsn s8)), .int (nI (zsm s8))])), (rn, .inl (cI, 5, .inl nv)), (rr, .inl (cI, 5, .inl (zsd s8))), (a, .inr (6, [.ref b])), (b, .inl (cI, 36, .inl (zsf s8)))] H := Eq.subst (motive := fun zz_ => va_P D vwCl [(tx, .inr (7, [.ref tb, .ref tt, .int (nI len), .int zz_, .int (nI (zsp s8))])), (tb, .inl (cI, 64, .inl bf)), (tt, .inl (cI, 4, .inl te)), (r, .inr (3, [.ref ro, .ref rn, .ref rr, .int rt, .int fr, .int pr, .int (nI (zsn s8)), .int (nI (zsm s8))])), (rn, .inl (cI, 5, .inl nv)), (rr, .inl (cI, 5, .inl (zsd s8))), (a, .inr (6, [.ref b])), (b, .inl (cI, 36, .inl (zsf s8)))] H) e_7 hP
      have e_8 : nI (zsp s8) = (if zsA bf len s8 = true then -9 else nI (zsQ bf len s8)) := by first | (rw [hqq]; done) | exact zft_A hqa hqq | (rw [hqa, hqq]; rfl)
      have hP : va_P D vwCl [(tx, .inr (7, [.ref tb, .ref tt, .int (nI len), .int (nI (zsQ bf len s8)), .int (if zsA bf len s8 = true then -9 else nI (zsQ bf len s8))])), (tb, .inl (cI, 64, .inl bf)), (tt, .inl (cI, 4, .inl te)), (r, .inr (3, [.ref ro, .ref rn, .ref rr, .int rt, .int fr, .int pr, .int (nI (zsn s8)), .int (nI (zsm s8))])), (rn, .inl (cI, 5, .inl nv)), (rr, .inl (cI, 5, .inl (zsd s8))), (a, .inr (6, [.ref b])), (b, .inl (cI, 36, .inl (zsf s8)))] H := Eq.subst (motive := fun zz_ => va_P D vwCl [(tx, .inr (7, [.ref tb, .ref tt, .int (nI len), .int (nI (zsQ bf len s8)), .int zz_])), (tb, .inl (cI, 64, .inl bf)), (tt, .inl (cI, 4, .inl te)), (r, .inr (3, [.ref ro, .ref rn, .ref rr, .int rt, .int fr, .int pr, .int (nI (zsn s8)), .int (nI (zsm s8))])), (rn, .inl (cI, 5, .inl nv)), (rr, .inl (cI, 5, .inl (zsd s8))), (a, .inr (6, [.ref b])), (b, .inl (cI, 36, .inl (zsf s8)))] H) e_8 hP
      have hD : va_D A [(tx, .inr (7, [.ref tb, .ref tt, .int (nI len), .int (nI (zsQ bf len s8)), .int (if zsA bf len s8 = true then -9 else nI (zsQ bf len s8))])), (tb, .inl (cI, 64, .inl bf)), (tt, .inl (cI, 4, .inl te)), (r, .inr (3, [.ref ro, .ref rn, .ref rr, .int rt, .int fr, .int pr, .int (nI (zsn s8)), .int (nI (zsm s8))])), (rn, .inl (cI, 5, .inl nv)), (rr, .inl (cI, 5, .inl (zsd s8))), (a, .inr (6, [.ref b])), (b, .inl (cI, 36, .inl (zsf s8)))] := zD_of hD rfl
      exact z_vret Z (te, zsn s8, zsm s8, nv, zsd s8, zsf s8) (by first | exact fun z => zsI_P hq8 z (by assumption) hnv | exact fun z => have y := zsI_R hq9 hr8 z hnv; ⟨by rw [zsS_R hq9]; rfl, y.1, y.2.1, by rw [zsS_R hq9]; rfl, y.2.2⟩ | exact fun z => absurd z (by rw [hqa]; decide)) hP hS dX7_readPart_78
    · have c_6 := zb1 c_6
      have hb2 := c_6
      refine lv_aload_n hx hb dX7_readPart_45 rfl (lv_at hl 1 rfl) ?_
      refine z_callVi (As := []) (rest := []) (ci := 3) (k0 := 0) Z hP hD hS hl.1 (zc_X3_roadStarts l D cI cZ r ro rn rr rt fr pr (zsn s8) (zsm s8) (zsd s8) (by omega) (by omega)) zm261 zm262 zm263 zm32 zm264 ⟨rfl, zd_X3_roadStarts⟩ ⟨Nat.le_of_ble_eq_true rfl, Nat.le_of_ble_eq_true rfl⟩ ⟨Nat.zero_le _, Nat.zero_le _⟩ [3, 5] rfl (by decide) rfl rfl rfl (fun _ => rfl) rfl (Nat.le_of_ble_eq_true rfl) rfl dX7_readPart_46 (fun r_9 u H locs h_10 hP hD hS => ?_)
      have hP : va_P D vwCl [(tx, .inr (7, [.ref tb, .ref tt, .int (nI len), .int (nI (zsp s8)), .int (-9)])), (tb, .inl (cI, 64, .inl bf)), (tt, .inl (cI, 4, .inl te)), (r, .inr (3, [.ref ro, .ref rn, .ref rr, .int rt, .int fr, .int pr, .int (nI (zsn s8)), .int (nI (zsm s8))])), (rn, .inl (cI, 5, .inl nv)), (rr, .inl (cI, 5, .inl (zsd s8))), (a, .inr (6, [.ref b])), (b, .inl (cI, 36, .inl (zsf s8)))] H := hP
      have hD : va_D A [(tx, .inr (7, [.ref tb, .ref tt, .int (nI len), .int (nI (zsp s8)), .int (-9)])), (tb, .inl (cI, 64, .inl bf)), (tt, .inl (cI, 4, .inl te)), (r, .inr (3, [.ref ro, .ref rn, .ref rr, .int rt, .int fr, .int pr, .int (nI (zsn s8)), .int (nI (zsm s8))])), (rn, .inl (cI, 5, .inl nv)), (rr, .inl (cI, 5, .inl (zsd s8))), (a, .inr (6, [.ref b])), (b, .inl (cI, 36, .inl (zsf s8)))] := hD
      have h_10 : r_9 = if (zsm s8) < 6 then zrs (zsn s8) (zsd s8) (zsn s8) else 0 := h_10
      subst h_10
      refine lv_if_eq (tgt := 70) hx hb dX7_readPart_49 (by decide) (fun c_11 => ?_) (fun c_11 => ?_)
      · have c_11 : (if (zsm s8) < 6 then zrs (zsn s8) (zsd s8) (zsn s8) else 0) = 0 := c_11
        have hr9 : ¬ zisR bf s8 := zs_no hn (Or.inr c_11)
        have hqa := zsA_n (len := len) hq9 hr9
        have hqq := zsQ_n (len := len) hq9 hr9
        refine lv_aload_n hx hb dX7_readPart_70 rfl (lv_at hl 0 rfl) ?_
        refine lv_aload_n hx hb dX7_readPart_71 rfl (lv_at hl 0 rfl) ?_
        refine z_get (ci := 7) (v := .int (nI (zsp s8))) Z zin7 hP 0 rfl rfl 3 (by decide) zm59 rfl rfl dX7_readPart_72 ?_
        refine z_put (ci := 7) (v := .int (nI (zsp s8))) Z zin7 tyX7 tyX7_ok nmX7 hP hD hS 0 rfl rfl 4 (by decide) zm60 rfl rfl rfl rfl (Nat.le_of_ble_eq_true rfl) dX7_readPart_75 (fun H locs hP hD hS => ?_)
        have hP : va_P D vwCl [(tx, .inr (7, [.ref tb, .ref tt, .int (nI len), .int (nI (zsp s8)), .int (nI (zsp s8))])), (tb, .inl (cI, 64, .inl bf)), (tt, .inl (cI, 4, .inl te)), (r, .inr (3, [.ref ro, .ref rn, .ref rr, .int rt, .int fr, .int pr, .int (nI (zsn s8)), .int (nI (zsm s8))])), (rn, .inl (cI, 5, .inl nv)), (rr, .inl (cI, 5, .inl (zsd s8))), (a, .inr (6, [.ref b])), (b, .inl (cI, 36, .inl (zsf s8)))] H := hP
        have hD : va_D A [(tx, .inr (7, [.ref tb, .ref tt, .int (nI len), .int (nI (zsp s8)), .int (nI (zsp s8))])), (tb, .inl (cI, 64, .inl bf)), (tt, .inl (cI, 4, .inl te)), (r, .inr (3, [.ref ro, .ref rn, .ref rr, .int rt, .int fr, .int pr, .int (nI (zsn s8)), .int (nI (zsm s8))])), (rn, .inl (cI, 5, .inl nv)), (rr, .inl (cI, 5, .inl (zsd s8))), (a, .inr (6, [.ref b])), (b, .inl (cI, 36, .inl (zsf s8)))] := hD
        have e_12 : nI (zsp s8) = nI (zsQ bf len s8) := by first | (rw [hqq]; done) | exact zft_A hqa hqq | (rw [hqa, hqq]; rfl)
        have hP : va_P D vwCl [(tx, .inr (7, [.ref tb, .ref tt, .int (nI len), .int (nI (zsQ bf len s8)), .int (nI (zsp s8))])), (tb, .inl (cI, 64, .inl bf)), (tt, .inl (cI, 4, .inl te)), (r, .inr (3, [.ref ro, .ref rn, .ref rr, .int rt, .int fr, .int pr, .int (nI (zsn s8)), .int (nI (zsm s8))])), (rn, .inl (cI, 5, .inl nv)), (rr, .inl (cI, 5, .inl (zsd s8))), (a, .inr (6, [.ref b])), (b, .inl (cI, 36, .inl (zsf s8)))] H := Eq.subst (motive := fun zz_ => va_P D vwCl [(tx, .inr (7, [.ref tb, .ref tt, .int (nI len), .int zz_, .int (nI (zsp s8))])), (tb, .inl (cI, 64, .inl bf)), (tt, .inl (cI, 4, .inl te)), (r, .inr (3, [.ref ro, .ref rn, .ref rr, .int rt, .int fr, .int pr, .int (nI (zsn s8)), .int (nI (zsm s8))])), (rn, .inl (cI, 5, .inl nv)), (rr, .inl (cI, 5, .inl (zsd s8))), (a, .inr (6, [.ref b])), (b, .inl (cI, 36, .inl (zsf s8)))] H) e_12 hP
        have e_13 : nI (zsp s8) = (if zsA bf len s8 = true then -9 else nI (zsQ bf len s8)) := by first | (rw [hqq]; done) | exact zft_A hqa hqq | (rw [hqa, hqq]; rfl)
        have hP : va_P D vwCl [(tx, .inr (7, [.ref tb, .ref tt, .int (nI len), .int (nI (zsQ bf len s8)), .int (if zsA bf len s8 = true then -9 else nI (zsQ bf len s8))])), (tb, .inl (cI, 64, .inl bf)), (tt, .inl (cI, 4, .inl te)), (r, .inr (3, [.ref ro, .ref rn, .ref rr, .int rt, .int fr, .int pr, .int (nI (zsn s8)), .int (nI (zsm s8))])), (rn, .inl (cI, 5, .inl nv)), (rr, .inl (cI, 5, .inl (zsd s8))), (a, .inr (6, [.ref b])), (b, .inl (cI, 36, .inl (zsf s8)))] H := Eq.subst (motive := fun zz_ => va_P D vwCl [(tx, .inr (7, [.ref tb, .ref tt, .int (nI len), .int (nI (zsQ bf len s8)), .int zz_])), (tb, .inl (cI, 64, .inl bf)), (tt, .inl (cI, 4, .inl te)), (r, .inr (3, [.ref ro, .ref rn, .ref rr, .int rt, .int fr, .int pr, .int (nI (zsn s8)), .int (nI (zsm s8))])), (rn, .inl (cI, 5, .inl nv)), (rr, .inl (cI, 5, .inl (zsd s8))), (a, .inr (6, [.ref b])), (b, .inl (cI, 36, .inl (zsf s8)))] H) e_13 hP
        have hD : va_D A [(tx, .inr (7, [.ref tb, .ref tt, .int (nI len), .int (nI (zsQ bf len s8)), .int (if zsA bf len s8 = true then -9 else nI (zsQ bf len s8))])), (tb, .inl (cI, 64, .inl bf)), (tt, .inl (cI, 4, .inl te)), (r, .inr (3, [.ref ro, .ref rn, .ref rr, .int rt, .int fr, .int pr, .int (nI (zsn s8)), .int (nI (zsm s8))])), (rn, .inl (cI, 5, .inl nv)), (rr, .inl (cI, 5, .inl (zsd s8))), (a, .inr (6, [.ref b])), (b, .inl (cI, 36, .inl (zsf s8)))] := zD_of hD rfl
        exact z_vret Z (te, zsn s8, zsm s8, nv, zsd s8, zsf s8) (by first | exact fun z => zsI_P hq8 z (by assumption) hnv | exact fun z => have y := zsI_R hq9 hr8 z hnv; ⟨by rw [zsS_R hq9]; rfl, y.1, y.2.1, by rw [zsS_R hq9]; rfl, y.2.2⟩ | exact fun z => absurd z (by rw [hqa]; decide)) hP hS dX7_readPart_78
      · have c_11 : ¬ ((if (zsm s8) < 6 then zrs (zsn s8) (zsd s8) (zsn s8) else 0) = 0) := c_11
        have hr7 := zs_yes hn c_11
        have hr8 : zisR bf s8 := ⟨hb2.2, hr7.1, hr7.2⟩
        have hn1 := zhoB_pos hr7.2
        refine lv_aload_n hx hb dX7_readPart_52 rfl (lv_at hl 0 rfl) ?_
        refine lv_dup hx hb dX7_readPart_53 rfl ?_
        refine z_get (ci := 7) (v := .int (nI (zsp s8))) Z zin7 hP 0 rfl rfl 3 (by decide) zm59 rfl rfl dX7_readPart_54 ?_
        refine lv_iconst (v := nI 1) hx hb dX7_readPart_57 (by decide) ?_
        refine lv_iadd hx hb dX7_readPart_58 ?_
        refine z_top (y := nI (zsp s8 + 1)) (z_add _ _) ?_
        refine z_put (ci := 7) (v := .int (nI (zsp s8 + 1))) Z zin7 tyX7 tyX7_ok nmX7 hP hD hS 0 rfl rfl 3 (by decide) zm59 rfl rfl rfl rfl (Nat.le_of_ble_eq_true rfl) dX7_readPart_59 (fun H locs hP hD hS => ?_)
        have hP : va_P D vwCl [(tx, .inr (7, [.ref tb, .ref tt, .int (nI len), .int (nI (zsp s8 + 1)), .int (-9)])), (tb, .inl (cI, 64, .inl bf)), (tt, .inl (cI, 4, .inl te)), (r, .inr (3, [.ref ro, .ref rn, .ref rr, .int rt, .int fr, .int pr, .int (nI (zsn s8)), .int (nI (zsm s8))])), (rn, .inl (cI, 5, .inl nv)), (rr, .inl (cI, 5, .inl (zsd s8))), (a, .inr (6, [.ref b])), (b, .inl (cI, 36, .inl (zsf s8)))] H := hP
        have hD : va_D A [(tx, .inr (7, [.ref tb, .ref tt, .int (nI len), .int (nI (zsp s8 + 1)), .int (-9)])), (tb, .inl (cI, 64, .inl bf)), (tt, .inl (cI, 4, .inl te)), (r, .inr (3, [.ref ro, .ref rn, .ref rr, .int rt, .int fr, .int pr, .int (nI (zsn s8)), .int (nI (zsm s8))])), (rn, .inl (cI, 5, .inl nv)), (rr, .inl (cI, 5, .inl (zsd s8))), (a, .inr (6, [.ref b])), (b, .inl (cI, 36, .inl (zsf s8)))] := hD
        refine lv_aload_n hx hb dX7_readPart_62 rfl (lv_at hl 0 rfl) ?_
        refine lv_aload_n hx hb dX7_readPart_63 rfl (lv_at hl 1 rfl) ?_
        refine z_callVv (As := [.ref r]) (rest := []) (ci := 7) (k0 := 0) Z hP hD hS hl.1 (zc_X7_readRoad l D cI cZ tx tb tt len bf r ro rn rr rt fr pr (zsn s8) (zsm s8) (zsd s8) (zsp s8 + 1) (by omega) (by omega) (by omega) (by exact hr7.1) (by exact hI.2.2.2.1) (by omega)) zm277 zm278 zm6 zm31 zm279 ⟨rfl, zd_X7_readRoad⟩ ⟨Nat.le_of_ble_eq_true rfl, Nat.le_of_ble_eq_true rfl⟩ ⟨Nat.zero_le _, Nat.zero_le _⟩ [0, 1, 3, 5] rfl (by decide) rfl rfl rfl (fun _ => rfl) rfl (Nat.le_of_ble_eq_true rfl) rfl dX7_readPart_64 (fun u H locs h_15 hP hD hS => ?_)
        have hP : va_P D vwCl [(tx, .inr (7, [.ref tb, .ref tt, .int (nI len), .int (nI ((zsp s8 + 1) + zcq (zoD bf len (zsn s8) (zsd s8) (zsp s8 + 1)) 2)), .int (zft (zsp s8 + 1) (zcq (zoD bf len (zsn s8) (zsd s8) (zsp s8 + 1)) 2) 2)])), (tb, .inl (cI, 64, .inl bf)), (tt, .inl (cI, 4, .inl te)), (r, .inr (3, [.ref ro, .ref rn, .ref rr, .int rt, .int fr, .int pr, .int (nI (zsn s8)), .int (nI (if zcq (zoD bf len (zsn s8) (zsd s8) (zsp s8 + 1)) 2 = 2 then (zsm s8) + 1 else (zsm s8)))])), (rn, .inl (cI, 5, .inl nv)), (rr, .inl (cI, 5, .inl (if zcq (zoD bf len (zsn s8) (zsd s8) (zsp s8 + 1)) 2 = 2 then zrdN (zsd s8) (zdg bf (zsp s8 + 1)) (zdg bf ((zsp s8 + 1) + 1)) else (zsd s8)))), (a, .inr (6, [.ref b])), (b, .inl (cI, 36, .inl (zsf s8)))] H := hP
        have hD : va_D A [(tx, .inr (7, [.ref tb, .ref tt, .int (nI len), .int (nI ((zsp s8 + 1) + zcq (zoD bf len (zsn s8) (zsd s8) (zsp s8 + 1)) 2)), .int (zft (zsp s8 + 1) (zcq (zoD bf len (zsn s8) (zsd s8) (zsp s8 + 1)) 2) 2)])), (tb, .inl (cI, 64, .inl bf)), (tt, .inl (cI, 4, .inl te)), (r, .inr (3, [.ref ro, .ref rn, .ref rr, .int rt, .int fr, .int pr, .int (nI (zsn s8)), .int (nI (if zcq (zoD bf len (zsn s8) (zsd s8) (zsp s8 + 1)) 2 = 2 then (zsm s8) + 1 else (zsm s8)))])), (rn, .inl (cI, 5, .inl nv)), (rr, .inl (cI, 5, .inl (if zcq (zoD bf len (zsn s8) (zsd s8) (zsp s8 + 1)) 2 = 2 then zrdN (zsd s8) (zdg bf (zsp s8 + 1)) (zdg bf ((zsp s8 + 1) + 1)) else (zsd s8)))), (a, .inr (6, [.ref b])), (b, .inl (cI, 36, .inl (zsf s8)))] := hD
        have hqa := zsA_R (len := len) hq9 hr8
        have hqq := zsQ_R (len := len) hq9 hr8
        refine lv_goto (tgt := 78) hx hb dX7_readPart_67 (by decide) ?_
        have e_16 : nI ((zsp s8 + 1) + zcq (zoD bf len (zsn s8) (zsd s8) (zsp s8 + 1)) 2) = nI (zsQ bf len s8) := by first | (rw [hqq]; done) | exact zft_A hqa hqq | (rw [hqa, hqq]; rfl)
        have hP : va_P D vwCl [(tx, .inr (7, [.ref tb, .ref tt, .int (nI len), .int (nI (zsQ bf len s8)), .int (zft (zsp s8 + 1) (zcq (zoD bf len (zsn s8) (zsd s8) (zsp s8 + 1)) 2) 2)])), (tb, .inl (cI, 64, .inl bf)), (tt, .inl (cI, 4, .inl te)), (r, .inr (3, [.ref ro, .ref rn, .ref rr, .int rt, .int fr, .int pr, .int (nI (zsn s8)), .int (nI (if zcq (zoD bf len (zsn s8) (zsd s8) (zsp s8 + 1)) 2 = 2 then (zsm s8) + 1 else (zsm s8)))])), (rn, .inl (cI, 5, .inl nv)), (rr, .inl (cI, 5, .inl (if zcq (zoD bf len (zsn s8) (zsd s8) (zsp s8 + 1)) 2 = 2 then zrdN (zsd s8) (zdg bf (zsp s8 + 1)) (zdg bf ((zsp s8 + 1) + 1)) else (zsd s8)))), (a, .inr (6, [.ref b])), (b, .inl (cI, 36, .inl (zsf s8)))] H := Eq.subst (motive := fun zz_ => va_P D vwCl [(tx, .inr (7, [.ref tb, .ref tt, .int (nI len), .int zz_, .int (zft (zsp s8 + 1) (zcq (zoD bf len (zsn s8) (zsd s8) (zsp s8 + 1)) 2) 2)])), (tb, .inl (cI, 64, .inl bf)), (tt, .inl (cI, 4, .inl te)), (r, .inr (3, [.ref ro, .ref rn, .ref rr, .int rt, .int fr, .int pr, .int (nI (zsn s8)), .int (nI (if zcq (zoD bf len (zsn s8) (zsd s8) (zsp s8 + 1)) 2 = 2 then (zsm s8) + 1 else (zsm s8)))])), (rn, .inl (cI, 5, .inl nv)), (rr, .inl (cI, 5, .inl (if zcq (zoD bf len (zsn s8) (zsd s8) (zsp s8 + 1)) 2 = 2 then zrdN (zsd s8) (zdg bf (zsp s8 + 1)) (zdg bf ((zsp s8 + 1) + 1)) else (zsd s8)))), (a, .inr (6, [.ref b])), (b, .inl (cI, 36, .inl (zsf s8)))] H) e_16 hP
        have e_17 : zft (zsp s8 + 1) (zcq (zoD bf len (zsn s8) (zsd s8) (zsp s8 + 1)) 2) 2 = (if zsA bf len s8 = true then -9 else nI (zsQ bf len s8)) := by first | (rw [hqq]; done) | exact zft_A hqa hqq | (rw [hqa, hqq]; rfl)
        have hP : va_P D vwCl [(tx, .inr (7, [.ref tb, .ref tt, .int (nI len), .int (nI (zsQ bf len s8)), .int (if zsA bf len s8 = true then -9 else nI (zsQ bf len s8))])), (tb, .inl (cI, 64, .inl bf)), (tt, .inl (cI, 4, .inl te)), (r, .inr (3, [.ref ro, .ref rn, .ref rr, .int rt, .int fr, .int pr, .int (nI (zsn s8)), .int (nI (if zcq (zoD bf len (zsn s8) (zsd s8) (zsp s8 + 1)) 2 = 2 then (zsm s8) + 1 else (zsm s8)))])), (rn, .inl (cI, 5, .inl nv)), (rr, .inl (cI, 5, .inl (if zcq (zoD bf len (zsn s8) (zsd s8) (zsp s8 + 1)) 2 = 2 then zrdN (zsd s8) (zdg bf (zsp s8 + 1)) (zdg bf ((zsp s8 + 1) + 1)) else (zsd s8)))), (a, .inr (6, [.ref b])), (b, .inl (cI, 36, .inl (zsf s8)))] H := Eq.subst (motive := fun zz_ => va_P D vwCl [(tx, .inr (7, [.ref tb, .ref tt, .int (nI len), .int (nI (zsQ bf len s8)), .int zz_])), (tb, .inl (cI, 64, .inl bf)), (tt, .inl (cI, 4, .inl te)), (r, .inr (3, [.ref ro, .ref rn, .ref rr, .int rt, .int fr, .int pr, .int (nI (zsn s8)), .int (nI (if zcq (zoD bf len (zsn s8) (zsd s8) (zsp s8 + 1)) 2 = 2 then (zsm s8) + 1 else (zsm s8)))])), (rn, .inl (cI, 5, .inl nv)), (rr, .inl (cI, 5, .inl (if zcq (zoD bf len (zsn s8) (zsd s8) (zsp s8 + 1)) 2 = 2 then zrdN (zsd s8) (zdg bf (zsp s8 + 1)) (zdg bf ((zsp s8 + 1) + 1)) else (zsd s8)))), (a, .inr (6, [.ref b])), (b, .inl (cI, 36, .inl (zsf s8)))] H) e_17 hP
        have hD : va_D A [(tx, .inr (7, [.ref tb, .ref tt, .int (nI len), .int (nI (zsQ bf len s8)), .int (if zsA bf len s8 = true then -9 else nI (zsQ bf len s8))])), (tb, .inl (cI, 64, .inl bf)), (tt, .inl (cI, 4, .inl te)), (r, .inr (3, [.ref ro, .ref rn, .ref rr, .int rt, .int fr, .int pr, .int (nI (zsn s8)), .int (nI (if zcq (zoD bf len (zsn s8) (zsd s8) (zsp s8 + 1)) 2 = 2 then (zsm s8) + 1 else (zsm s8)))])), (rn, .inl (cI, 5, .inl nv)), (rr, .inl (cI, 5, .inl (if zcq (zoD bf len (zsn s8) (zsd s8) (zsp s8 + 1)) 2 = 2 then zrdN (zsd s8) (zdg bf (zsp s8 + 1)) (zdg bf ((zsp s8 + 1) + 1)) else (zsd s8)))), (a, .inr (6, [.ref b])), (b, .inl (cI, 36, .inl (zsf s8)))] := zD_of hD rfl
        exact z_vret Z (te, zsn s8, if zcq (zoD bf len (zsn s8) (zsd s8) (zsp s8 + 1)) 2 = 2 then (zsm s8) + 1 else (zsm s8), nv, if zcq (zoD bf len (zsn s8) (zsd s8) (zsp s8 + 1)) 2 = 2 then zrdN (zsd s8) (zdg bf (zsp s8 + 1)) (zdg bf ((zsp s8 + 1) + 1)) else (zsd s8), zsf s8) (by first | exact fun z => zsI_P hq8 z (by assumption) hnv | exact fun z => have y := zsI_R hq9 hr8 z hnv; ⟨by rw [zsS_R hq9]; rfl, y.1, y.2.1, by rw [zsS_R hq9]; rfl, y.2.2⟩ | exact fun z => absurd z (by rw [hqa]; decide)) hP hS dX7_readPart_78
  · have c_3 := zb1 c_3
    have hb1 := c_3
    refine lv_aload_n hx hb dX7_readPart_9 rfl (lv_at hl 1 rfl) ?_
    refine z_getN (ci := 3) (v := .int (nI (zsn s8))) Z zin3 hP 3 rfl rfl 6 (by decide) zn19 rfl rfl dX7_readPart_10 ?_
    refine lv_iconst (v := nI 5) hx hb dX7_readPart_13 (by decide) ?_
    refine lv_icmp_ge (tgt := 36) hx hb dX7_readPart_14 (by decide) (fun c_18 => ?_) (fun c_18 => ?_)
    · have c_18 := zle (i := 5) (j := zsn s8) (by decide) (by omega) c_18
      have hq9 : ¬ zisP bf s8 := fun z => absurd z.2 (by omega)
      refine lv_aload_n hx hb dX7_readPart_36 rfl (lv_at hl 0 rfl) ?_
      refine lv_bipush (v := nI 82) hx hb dX7_readPart_37 (by decide) ?_
      refine z_callVi (As := [.int (nI 82)]) (rest := []) (ci := 7) (k0 := 0) Z hP hD hS hl.1 (zc_X7_comes l D cI cZ tx tb tt len (zsp s8) (-9) bf (nI 82) (by omega) (by omega)) zm232 zm233 zm1 zm31 zm234 ⟨rfl, zd_X7_comes⟩ ⟨Nat.le_of_ble_eq_true rfl, Nat.le_of_ble_eq_true rfl⟩ ⟨Nat.zero_le _, Nat.zero_le _⟩ [0, 1] rfl (by decide) rfl rfl rfl (fun _ => rfl) rfl (Nat.le_of_ble_eq_true rfl) rfl dX7_readPart_39 (fun r_19 u H locs h_20 hP hD hS => ?_)
      have hP : va_P D vwCl [(tx, .inr (7, [.ref tb, .ref tt, .int (nI len), .int (nI (zsp s8)), .int (-9)])), (tb, .inl (cI, 64, .inl bf)), (tt, .inl (cI, 4, .inl te)), (r, .inr (3, [.ref ro, .ref rn, .ref rr, .int rt, .int fr, .int pr, .int (nI (zsn s8)), .int (nI (zsm s8))])), (rn, .inl (cI, 5, .inl nv)), (rr, .inl (cI, 5, .inl (zsd s8))), (a, .inr (6, [.ref b])), (b, .inl (cI, 36, .inl (zsf s8)))] H := hP
      have hD : va_D A [(tx, .inr (7, [.ref tb, .ref tt, .int (nI len), .int (nI (zsp s8)), .int (-9)])), (tb, .inl (cI, 64, .inl bf)), (tt, .inl (cI, 4, .inl te)), (r, .inr (3, [.ref ro, .ref rn, .ref rr, .int rt, .int fr, .int pr, .int (nI (zsn s8)), .int (nI (zsm s8))])), (rn, .inl (cI, 5, .inl nv)), (rr, .inl (cI, 5, .inl (zsd s8))), (a, .inr (6, [.ref b])), (b, .inl (cI, 36, .inl (zsf s8)))] := hD
      have h_20 : r_19 = if (zsp s8) < len ∧ bf (zsp s8) = (nI 82) then 1 else 0 := h_20
      subst h_20
      refine lv_if_eq (tgt := 70) hx hb dX7_readPart_42 (by decide) (fun c_21 => ?_) (fun c_21 => ?_)
      · have c_21 := zb0 c_21
        have hr9 : ¬ zisR bf s8 := zs_no hn (Or.inl (fun z => c_21 ⟨hlt, z⟩))
        have hqa := zsA_n (len := len) hq9 hr9
        have hqq := zsQ_n (len := len) hq9 hr9
        refine lv_aload_n hx hb dX7_readPart_70 rfl (lv_at hl 0 rfl) ?_
        refine lv_aload_n hx hb dX7_readPart_71 rfl (lv_at hl 0 rfl) ?_
        refine z_get (ci := 7) (v := .int (nI (zsp s8))) Z zin7 hP 0 rfl rfl 3 (by decide) zm59 rfl rfl dX7_readPart_72 ?_
        refine z_put (ci := 7) (v := .int (nI (zsp s8))) Z zin7 tyX7 tyX7_ok nmX7 hP hD hS 0 rfl rfl 4 (by decide) zm60 rfl rfl rfl rfl (Nat.le_of_ble_eq_true rfl) dX7_readPart_75 (fun H locs hP hD hS => ?_)
        have hP : va_P D vwCl [(tx, .inr (7, [.ref tb, .ref tt, .int (nI len), .int (nI (zsp s8)), .int (nI (zsp s8))])), (tb, .inl (cI, 64, .inl bf)), (tt, .inl (cI, 4, .inl te)), (r, .inr (3, [.ref ro, .ref rn, .ref rr, .int rt, .int fr, .int pr, .int (nI (zsn s8)), .int (nI (zsm s8))])), (rn, .inl (cI, 5, .inl nv)), (rr, .inl (cI, 5, .inl (zsd s8))), (a, .inr (6, [.ref b])), (b, .inl (cI, 36, .inl (zsf s8)))] H := hP
        have hD : va_D A [(tx, .inr (7, [.ref tb, .ref tt, .int (nI len), .int (nI (zsp s8)), .int (nI (zsp s8))])), (tb, .inl (cI, 64, .inl bf)), (tt, .inl (cI, 4, .inl te)), (r, .inr (3, [.ref ro, .ref rn, .ref rr, .int rt, .int fr, .int pr, .int (nI (zsn s8)), .int (nI (zsm s8))])), (rn, .inl (cI, 5, .inl nv)), (rr, .inl (cI, 5, .inl (zsd s8))), (a, .inr (6, [.ref b])), (b, .inl (cI, 36, .inl (zsf s8)))] := hD
        have e_22 : nI (zsp s8) = nI (zsQ bf len s8) := by first | (rw [hqq]; done) | exact zft_A hqa hqq | (rw [hqa, hqq]; rfl)
        have hP : va_P D vwCl [(tx, .inr (7, [.ref tb, .ref tt, .int (nI len), .int (nI (zsQ bf len s8)), .int (nI (zsp s8))])), (tb, .inl (cI, 64, .inl bf)), (tt, .inl (cI, 4, .inl te)), (r, .inr (3, [.ref ro, .ref rn, .ref rr, .int rt, .int fr, .int pr, .int (nI (zsn s8)), .int (nI (zsm s8))])), (rn, .inl (cI, 5, .inl nv)), (rr, .inl (cI, 5, .inl (zsd s8))), (a, .inr (6, [.ref b])), (b, .inl (cI, 36, .inl (zsf s8)))] H := Eq.subst (motive := fun zz_ => va_P D vwCl [(tx, .inr (7, [.ref tb, .ref tt, .int (nI len), .int zz_, .int (nI (zsp s8))])), (tb, .inl (cI, 64, .inl bf)), (tt, .inl (cI, 4, .inl te)), (r, .inr (3, [.ref ro, .ref rn, .ref rr, .int rt, .int fr, .int pr, .int (nI (zsn s8)), .int (nI (zsm s8))])), (rn, .inl (cI, 5, .inl nv)), (rr, .inl (cI, 5, .inl (zsd s8))), (a, .inr (6, [.ref b])), (b, .inl (cI, 36, .inl (zsf s8)))] H) e_22 hP
        have e_23 : nI (zsp s8) = (if zsA bf len s8 = true then -9 else nI (zsQ bf len s8)) := by first | (rw [hqq]; done) | exact zft_A hqa hqq | (rw [hqa, hqq]; rfl)
        have hP : va_P D vwCl [(tx, .inr (7, [.ref tb, .ref tt, .int (nI len), .int (nI (zsQ bf len s8)), .int (if zsA bf len s8 = true then -9 else nI (zsQ bf len s8))])), (tb, .inl (cI, 64, .inl bf)), (tt, .inl (cI, 4, .inl te)), (r, .inr (3, [.ref ro, .ref rn, .ref rr, .int rt, .int fr, .int pr, .int (nI (zsn s8)), .int (nI (zsm s8))])), (rn, .inl (cI, 5, .inl nv)), (rr, .inl (cI, 5, .inl (zsd s8))), (a, .inr (6, [.ref b])), (b, .inl (cI, 36, .inl (zsf s8)))] H := Eq.subst (motive := fun zz_ => va_P D vwCl [(tx, .inr (7, [.ref tb, .ref tt, .int (nI len), .int (nI (zsQ bf len s8)), .int zz_])), (tb, .inl (cI, 64, .inl bf)), (tt, .inl (cI, 4, .inl te)), (r, .inr (3, [.ref ro, .ref rn, .ref rr, .int rt, .int fr, .int pr, .int (nI (zsn s8)), .int (nI (zsm s8))])), (rn, .inl (cI, 5, .inl nv)), (rr, .inl (cI, 5, .inl (zsd s8))), (a, .inr (6, [.ref b])), (b, .inl (cI, 36, .inl (zsf s8)))] H) e_23 hP
        have hD : va_D A [(tx, .inr (7, [.ref tb, .ref tt, .int (nI len), .int (nI (zsQ bf len s8)), .int (if zsA bf len s8 = true then -9 else nI (zsQ bf len s8))])), (tb, .inl (cI, 64, .inl bf)), (tt, .inl (cI, 4, .inl te)), (r, .inr (3, [.ref ro, .ref rn, .ref rr, .int rt, .int fr, .int pr, .int (nI (zsn s8)), .int (nI (zsm s8))])), (rn, .inl (cI, 5, .inl nv)), (rr, .inl (cI, 5, .inl (zsd s8))), (a, .inr (6, [.ref b])), (b, .inl (cI, 36, .inl (zsf s8)))] := zD_of hD rfl
        exact z_vret Z (te, zsn s8, zsm s8, nv, zsd s8, zsf s8) (by first | exact fun z => zsI_P hq8 z (by assumption) hnv | exact fun z => have y := zsI_R hq9 hr8 z hnv; ⟨by rw [zsS_R hq9]; rfl, y.1, y.2.1, by rw [zsS_R hq9]; rfl, y.2.2⟩ | exact fun z => absurd z (by rw [hqa]; decide)) hP hS dX7_readPart_78
      · have c_21 := zb1 c_21
        have hb2 := c_21
        refine lv_aload_n hx hb dX7_readPart_45 rfl (lv_at hl 1 rfl) ?_
        refine z_callVi (As := []) (rest := []) (ci := 3) (k0 := 0) Z hP hD hS hl.1 (zc_X3_roadStarts l D cI cZ r ro rn rr rt fr pr (zsn s8) (zsm s8) (zsd s8) (by omega) (by omega)) zm261 zm262 zm263 zm32 zm264 ⟨rfl, zd_X3_roadStarts⟩ ⟨Nat.le_of_ble_eq_true rfl, Nat.le_of_ble_eq_true rfl⟩ ⟨Nat.zero_le _, Nat.zero_le _⟩ [3, 5] rfl (by decide) rfl rfl rfl (fun _ => rfl) rfl (Nat.le_of_ble_eq_true rfl) rfl dX7_readPart_46 (fun r_24 u H locs h_25 hP hD hS => ?_)
        have hP : va_P D vwCl [(tx, .inr (7, [.ref tb, .ref tt, .int (nI len), .int (nI (zsp s8)), .int (-9)])), (tb, .inl (cI, 64, .inl bf)), (tt, .inl (cI, 4, .inl te)), (r, .inr (3, [.ref ro, .ref rn, .ref rr, .int rt, .int fr, .int pr, .int (nI (zsn s8)), .int (nI (zsm s8))])), (rn, .inl (cI, 5, .inl nv)), (rr, .inl (cI, 5, .inl (zsd s8))), (a, .inr (6, [.ref b])), (b, .inl (cI, 36, .inl (zsf s8)))] H := hP
        have hD : va_D A [(tx, .inr (7, [.ref tb, .ref tt, .int (nI len), .int (nI (zsp s8)), .int (-9)])), (tb, .inl (cI, 64, .inl bf)), (tt, .inl (cI, 4, .inl te)), (r, .inr (3, [.ref ro, .ref rn, .ref rr, .int rt, .int fr, .int pr, .int (nI (zsn s8)), .int (nI (zsm s8))])), (rn, .inl (cI, 5, .inl nv)), (rr, .inl (cI, 5, .inl (zsd s8))), (a, .inr (6, [.ref b])), (b, .inl (cI, 36, .inl (zsf s8)))] := hD
        have h_25 : r_24 = if (zsm s8) < 6 then zrs (zsn s8) (zsd s8) (zsn s8) else 0 := h_25
        subst h_25
        refine lv_if_eq (tgt := 70) hx hb dX7_readPart_49 (by decide) (fun c_26 => ?_) (fun c_26 => ?_)
        · have c_26 : (if (zsm s8) < 6 then zrs (zsn s8) (zsd s8) (zsn s8) else 0) = 0 := c_26
          have hr9 : ¬ zisR bf s8 := zs_no hn (Or.inr c_26)
          have hqa := zsA_n (len := len) hq9 hr9
          have hqq := zsQ_n (len := len) hq9 hr9
          refine lv_aload_n hx hb dX7_readPart_70 rfl (lv_at hl 0 rfl) ?_
          refine lv_aload_n hx hb dX7_readPart_71 rfl (lv_at hl 0 rfl) ?_
          refine z_get (ci := 7) (v := .int (nI (zsp s8))) Z zin7 hP 0 rfl rfl 3 (by decide) zm59 rfl rfl dX7_readPart_72 ?_
          refine z_put (ci := 7) (v := .int (nI (zsp s8))) Z zin7 tyX7 tyX7_ok nmX7 hP hD hS 0 rfl rfl 4 (by decide) zm60 rfl rfl rfl rfl (Nat.le_of_ble_eq_true rfl) dX7_readPart_75 (fun H locs hP hD hS => ?_)
          have hP : va_P D vwCl [(tx, .inr (7, [.ref tb, .ref tt, .int (nI len), .int (nI (zsp s8)), .int (nI (zsp s8))])), (tb, .inl (cI, 64, .inl bf)), (tt, .inl (cI, 4, .inl te)), (r, .inr (3, [.ref ro, .ref rn, .ref rr, .int rt, .int fr, .int pr, .int (nI (zsn s8)), .int (nI (zsm s8))])), (rn, .inl (cI, 5, .inl nv)), (rr, .inl (cI, 5, .inl (zsd s8))), (a, .inr (6, [.ref b])), (b, .inl (cI, 36, .inl (zsf s8)))] H := hP
          have hD : va_D A [(tx, .inr (7, [.ref tb, .ref tt, .int (nI len), .int (nI (zsp s8)), .int (nI (zsp s8))])), (tb, .inl (cI, 64, .inl bf)), (tt, .inl (cI, 4, .inl te)), (r, .inr (3, [.ref ro, .ref rn, .ref rr, .int rt, .int fr, .int pr, .int (nI (zsn s8)), .int (nI (zsm s8))])), (rn, .inl (cI, 5, .inl nv)), (rr, .inl (cI, 5, .inl (zsd s8))), (a, .inr (6, [.ref b])), (b, .inl (cI, 36, .inl (zsf s8)))] := hD
          have e_27 : nI (zsp s8) = nI (zsQ bf len s8) := by first | (rw [hqq]; done) | exact zft_A hqa hqq | (rw [hqa, hqq]; rfl)
          have hP : va_P D vwCl [(tx, .inr (7, [.ref tb, .ref tt, .int (nI len), .int (nI (zsQ bf len s8)), .int (nI (zsp s8))])), (tb, .inl (cI, 64, .inl bf)), (tt, .inl (cI, 4, .inl te)), (r, .inr (3, [.ref ro, .ref rn, .ref rr, .int rt, .int fr, .int pr, .int (nI (zsn s8)), .int (nI (zsm s8))])), (rn, .inl (cI, 5, .inl nv)), (rr, .inl (cI, 5, .inl (zsd s8))), (a, .inr (6, [.ref b])), (b, .inl (cI, 36, .inl (zsf s8)))] H := Eq.subst (motive := fun zz_ => va_P D vwCl [(tx, .inr (7, [.ref tb, .ref tt, .int (nI len), .int zz_, .int (nI (zsp s8))])), (tb, .inl (cI, 64, .inl bf)), (tt, .inl (cI, 4, .inl te)), (r, .inr (3, [.ref ro, .ref rn, .ref rr, .int rt, .int fr, .int pr, .int (nI (zsn s8)), .int (nI (zsm s8))])), (rn, .inl (cI, 5, .inl nv)), (rr, .inl (cI, 5, .inl (zsd s8))), (a, .inr (6, [.ref b])), (b, .inl (cI, 36, .inl (zsf s8)))] H) e_27 hP
          have e_28 : nI (zsp s8) = (if zsA bf len s8 = true then -9 else nI (zsQ bf len s8)) := by first | (rw [hqq]; done) | exact zft_A hqa hqq | (rw [hqa, hqq]; rfl)
          have hP : va_P D vwCl [(tx, .inr (7, [.ref tb, .ref tt, .int (nI len), .int (nI (zsQ bf len s8)), .int (if zsA bf len s8 = true then -9 else nI (zsQ bf len s8))])), (tb, .inl (cI, 64, .inl bf)), (tt, .inl (cI, 4, .inl te)), (r, .inr (3, [.ref ro, .ref rn, .ref rr, .int rt, .int fr, .int pr, .int (nI (zsn s8)), .int (nI (zsm s8))])), (rn, .inl (cI, 5, .inl nv)), (rr, .inl (cI, 5, .inl (zsd s8))), (a, .inr (6, [.ref b])), (b, .inl (cI, 36, .inl (zsf s8)))] H := Eq.subst (motive := fun zz_ => va_P D vwCl [(tx, .inr (7, [.ref tb, .ref tt, .int (nI len), .int (nI (zsQ bf len s8)), .int zz_])), (tb, .inl (cI, 64, .inl bf)), (tt, .inl (cI, 4, .inl te)), (r, .inr (3, [.ref ro, .ref rn, .ref rr, .int rt, .int fr, .int pr, .int (nI (zsn s8)), .int (nI (zsm s8))])), (rn, .inl (cI, 5, .inl nv)), (rr, .inl (cI, 5, .inl (zsd s8))), (a, .inr (6, [.ref b])), (b, .inl (cI, 36, .inl (zsf s8)))] H) e_28 hP
          have hD : va_D A [(tx, .inr (7, [.ref tb, .ref tt, .int (nI len), .int (nI (zsQ bf len s8)), .int (if zsA bf len s8 = true then -9 else nI (zsQ bf len s8))])), (tb, .inl (cI, 64, .inl bf)), (tt, .inl (cI, 4, .inl te)), (r, .inr (3, [.ref ro, .ref rn, .ref rr, .int rt, .int fr, .int pr, .int (nI (zsn s8)), .int (nI (zsm s8))])), (rn, .inl (cI, 5, .inl nv)), (rr, .inl (cI, 5, .inl (zsd s8))), (a, .inr (6, [.ref b])), (b, .inl (cI, 36, .inl (zsf s8)))] := zD_of hD rfl
          exact z_vret Z (te, zsn s8, zsm s8, nv, zsd s8, zsf s8) (by first | exact fun z => zsI_P hq8 z (by assumption) hnv | exact fun z => have y := zsI_R hq9 hr8 z hnv; ⟨by rw [zsS_R hq9]; rfl, y.1, y.2.1, by rw [zsS_R hq9]; rfl, y.2.2⟩ | exact fun z => absurd z (by rw [hqa]; decide)) hP hS dX7_readPart_78
        · have c_26 : ¬ ((if (zsm s8) < 6 then zrs (zsn s8) (zsd s8) (zsn s8) else 0) = 0) := c_26
          have hr7 := zs_yes hn c_26
          have hr8 : zisR bf s8 := ⟨hb2.2, hr7.1, hr7.2⟩
          have hn1 := zhoB_pos hr7.2
          refine lv_aload_n hx hb dX7_readPart_52 rfl (lv_at hl 0 rfl) ?_
          refine lv_dup hx hb dX7_readPart_53 rfl ?_
          refine z_get (ci := 7) (v := .int (nI (zsp s8))) Z zin7 hP 0 rfl rfl 3 (by decide) zm59 rfl rfl dX7_readPart_54 ?_
          refine lv_iconst (v := nI 1) hx hb dX7_readPart_57 (by decide) ?_
          refine lv_iadd hx hb dX7_readPart_58 ?_
          refine z_top (y := nI (zsp s8 + 1)) (z_add _ _) ?_
          refine z_put (ci := 7) (v := .int (nI (zsp s8 + 1))) Z zin7 tyX7 tyX7_ok nmX7 hP hD hS 0 rfl rfl 3 (by decide) zm59 rfl rfl rfl rfl (Nat.le_of_ble_eq_true rfl) dX7_readPart_59 (fun H locs hP hD hS => ?_)
          have hP : va_P D vwCl [(tx, .inr (7, [.ref tb, .ref tt, .int (nI len), .int (nI (zsp s8 + 1)), .int (-9)])), (tb, .inl (cI, 64, .inl bf)), (tt, .inl (cI, 4, .inl te)), (r, .inr (3, [.ref ro, .ref rn, .ref rr, .int rt, .int fr, .int pr, .int (nI (zsn s8)), .int (nI (zsm s8))])), (rn, .inl (cI, 5, .inl nv)), (rr, .inl (cI, 5, .inl (zsd s8))), (a, .inr (6, [.ref b])), (b, .inl (cI, 36, .inl (zsf s8)))] H := hP
          have hD : va_D A [(tx, .inr (7, [.ref tb, .ref tt, .int (nI len), .int (nI (zsp s8 + 1)), .int (-9)])), (tb, .inl (cI, 64, .inl bf)), (tt, .inl (cI, 4, .inl te)), (r, .inr (3, [.ref ro, .ref rn, .ref rr, .int rt, .int fr, .int pr, .int (nI (zsn s8)), .int (nI (zsm s8))])), (rn, .inl (cI, 5, .inl nv)), (rr, .inl (cI, 5, .inl (zsd s8))), (a, .inr (6, [.ref b])), (b, .inl (cI, 36, .inl (zsf s8)))] := hD
          refine lv_aload_n hx hb dX7_readPart_62 rfl (lv_at hl 0 rfl) ?_
          refine lv_aload_n hx hb dX7_readPart_63 rfl (lv_at hl 1 rfl) ?_
          refine z_callVv (As := [.ref r]) (rest := []) (ci := 7) (k0 := 0) Z hP hD hS hl.1 (zc_X7_readRoad l D cI cZ tx tb tt len bf r ro rn rr rt fr pr (zsn s8) (zsm s8) (zsd s8) (zsp s8 + 1) (by omega) (by omega) (by omega) (by exact hr7.1) (by exact hI.2.2.2.1) (by omega)) zm277 zm278 zm6 zm31 zm279 ⟨rfl, zd_X7_readRoad⟩ ⟨Nat.le_of_ble_eq_true rfl, Nat.le_of_ble_eq_true rfl⟩ ⟨Nat.zero_le _, Nat.zero_le _⟩ [0, 1, 3, 5] rfl (by decide) rfl rfl rfl (fun _ => rfl) rfl (Nat.le_of_ble_eq_true rfl) rfl dX7_readPart_64 (fun u H locs h_30 hP hD hS => ?_)
          have hP : va_P D vwCl [(tx, .inr (7, [.ref tb, .ref tt, .int (nI len), .int (nI ((zsp s8 + 1) + zcq (zoD bf len (zsn s8) (zsd s8) (zsp s8 + 1)) 2)), .int (zft (zsp s8 + 1) (zcq (zoD bf len (zsn s8) (zsd s8) (zsp s8 + 1)) 2) 2)])), (tb, .inl (cI, 64, .inl bf)), (tt, .inl (cI, 4, .inl te)), (r, .inr (3, [.ref ro, .ref rn, .ref rr, .int rt, .int fr, .int pr, .int (nI (zsn s8)), .int (nI (if zcq (zoD bf len (zsn s8) (zsd s8) (zsp s8 + 1)) 2 = 2 then (zsm s8) + 1 else (zsm s8)))])), (rn, .inl (cI, 5, .inl nv)), (rr, .inl (cI, 5, .inl (if zcq (zoD bf len (zsn s8) (zsd s8) (zsp s8 + 1)) 2 = 2 then zrdN (zsd s8) (zdg bf (zsp s8 + 1)) (zdg bf ((zsp s8 + 1) + 1)) else (zsd s8)))), (a, .inr (6, [.ref b])), (b, .inl (cI, 36, .inl (zsf s8)))] H := hP
          have hD : va_D A [(tx, .inr (7, [.ref tb, .ref tt, .int (nI len), .int (nI ((zsp s8 + 1) + zcq (zoD bf len (zsn s8) (zsd s8) (zsp s8 + 1)) 2)), .int (zft (zsp s8 + 1) (zcq (zoD bf len (zsn s8) (zsd s8) (zsp s8 + 1)) 2) 2)])), (tb, .inl (cI, 64, .inl bf)), (tt, .inl (cI, 4, .inl te)), (r, .inr (3, [.ref ro, .ref rn, .ref rr, .int rt, .int fr, .int pr, .int (nI (zsn s8)), .int (nI (if zcq (zoD bf len (zsn s8) (zsd s8) (zsp s8 + 1)) 2 = 2 then (zsm s8) + 1 else (zsm s8)))])), (rn, .inl (cI, 5, .inl nv)), (rr, .inl (cI, 5, .inl (if zcq (zoD bf len (zsn s8) (zsd s8) (zsp s8 + 1)) 2 = 2 then zrdN (zsd s8) (zdg bf (zsp s8 + 1)) (zdg bf ((zsp s8 + 1) + 1)) else (zsd s8)))), (a, .inr (6, [.ref b])), (b, .inl (cI, 36, .inl (zsf s8)))] := hD
          have hqa := zsA_R (len := len) hq9 hr8
          have hqq := zsQ_R (len := len) hq9 hr8
          refine lv_goto (tgt := 78) hx hb dX7_readPart_67 (by decide) ?_
          have e_31 : nI ((zsp s8 + 1) + zcq (zoD bf len (zsn s8) (zsd s8) (zsp s8 + 1)) 2) = nI (zsQ bf len s8) := by first | (rw [hqq]; done) | exact zft_A hqa hqq | (rw [hqa, hqq]; rfl)
          have hP : va_P D vwCl [(tx, .inr (7, [.ref tb, .ref tt, .int (nI len), .int (nI (zsQ bf len s8)), .int (zft (zsp s8 + 1) (zcq (zoD bf len (zsn s8) (zsd s8) (zsp s8 + 1)) 2) 2)])), (tb, .inl (cI, 64, .inl bf)), (tt, .inl (cI, 4, .inl te)), (r, .inr (3, [.ref ro, .ref rn, .ref rr, .int rt, .int fr, .int pr, .int (nI (zsn s8)), .int (nI (if zcq (zoD bf len (zsn s8) (zsd s8) (zsp s8 + 1)) 2 = 2 then (zsm s8) + 1 else (zsm s8)))])), (rn, .inl (cI, 5, .inl nv)), (rr, .inl (cI, 5, .inl (if zcq (zoD bf len (zsn s8) (zsd s8) (zsp s8 + 1)) 2 = 2 then zrdN (zsd s8) (zdg bf (zsp s8 + 1)) (zdg bf ((zsp s8 + 1) + 1)) else (zsd s8)))), (a, .inr (6, [.ref b])), (b, .inl (cI, 36, .inl (zsf s8)))] H := Eq.subst (motive := fun zz_ => va_P D vwCl [(tx, .inr (7, [.ref tb, .ref tt, .int (nI len), .int zz_, .int (zft (zsp s8 + 1) (zcq (zoD bf len (zsn s8) (zsd s8) (zsp s8 + 1)) 2) 2)])), (tb, .inl (cI, 64, .inl bf)), (tt, .inl (cI, 4, .inl te)), (r, .inr (3, [.ref ro, .ref rn, .ref rr, .int rt, .int fr, .int pr, .int (nI (zsn s8)), .int (nI (if zcq (zoD bf len (zsn s8) (zsd s8) (zsp s8 + 1)) 2 = 2 then (zsm s8) + 1 else (zsm s8)))])), (rn, .inl (cI, 5, .inl nv)), (rr, .inl (cI, 5, .inl (if zcq (zoD bf len (zsn s8) (zsd s8) (zsp s8 + 1)) 2 = 2 then zrdN (zsd s8) (zdg bf (zsp s8 + 1)) (zdg bf ((zsp s8 + 1) + 1)) else (zsd s8)))), (a, .inr (6, [.ref b])), (b, .inl (cI, 36, .inl (zsf s8)))] H) e_31 hP
          have e_32 : zft (zsp s8 + 1) (zcq (zoD bf len (zsn s8) (zsd s8) (zsp s8 + 1)) 2) 2 = (if zsA bf len s8 = true then -9 else nI (zsQ bf len s8)) := by first | (rw [hqq]; done) | exact zft_A hqa hqq | (rw [hqa, hqq]; rfl)
          have hP : va_P D vwCl [(tx, .inr (7, [.ref tb, .ref tt, .int (nI len), .int (nI (zsQ bf len s8)), .int (if zsA bf len s8 = true then -9 else nI (zsQ bf len s8))])), (tb, .inl (cI, 64, .inl bf)), (tt, .inl (cI, 4, .inl te)), (r, .inr (3, [.ref ro, .ref rn, .ref rr, .int rt, .int fr, .int pr, .int (nI (zsn s8)), .int (nI (if zcq (zoD bf len (zsn s8) (zsd s8) (zsp s8 + 1)) 2 = 2 then (zsm s8) + 1 else (zsm s8)))])), (rn, .inl (cI, 5, .inl nv)), (rr, .inl (cI, 5, .inl (if zcq (zoD bf len (zsn s8) (zsd s8) (zsp s8 + 1)) 2 = 2 then zrdN (zsd s8) (zdg bf (zsp s8 + 1)) (zdg bf ((zsp s8 + 1) + 1)) else (zsd s8)))), (a, .inr (6, [.ref b])), (b, .inl (cI, 36, .inl (zsf s8)))] H := Eq.subst (motive := fun zz_ => va_P D vwCl [(tx, .inr (7, [.ref tb, .ref tt, .int (nI len), .int (nI (zsQ bf len s8)), .int zz_])), (tb, .inl (cI, 64, .inl bf)), (tt, .inl (cI, 4, .inl te)), (r, .inr (3, [.ref ro, .ref rn, .ref rr, .int rt, .int fr, .int pr, .int (nI (zsn s8)), .int (nI (if zcq (zoD bf len (zsn s8) (zsd s8) (zsp s8 + 1)) 2 = 2 then (zsm s8) + 1 else (zsm s8)))])), (rn, .inl (cI, 5, .inl nv)), (rr, .inl (cI, 5, .inl (if zcq (zoD bf len (zsn s8) (zsd s8) (zsp s8 + 1)) 2 = 2 then zrdN (zsd s8) (zdg bf (zsp s8 + 1)) (zdg bf ((zsp s8 + 1) + 1)) else (zsd s8)))), (a, .inr (6, [.ref b])), (b, .inl (cI, 36, .inl (zsf s8)))] H) e_32 hP
          have hD : va_D A [(tx, .inr (7, [.ref tb, .ref tt, .int (nI len), .int (nI (zsQ bf len s8)), .int (if zsA bf len s8 = true then -9 else nI (zsQ bf len s8))])), (tb, .inl (cI, 64, .inl bf)), (tt, .inl (cI, 4, .inl te)), (r, .inr (3, [.ref ro, .ref rn, .ref rr, .int rt, .int fr, .int pr, .int (nI (zsn s8)), .int (nI (if zcq (zoD bf len (zsn s8) (zsd s8) (zsp s8 + 1)) 2 = 2 then (zsm s8) + 1 else (zsm s8)))])), (rn, .inl (cI, 5, .inl nv)), (rr, .inl (cI, 5, .inl (if zcq (zoD bf len (zsn s8) (zsd s8) (zsp s8 + 1)) 2 = 2 then zrdN (zsd s8) (zdg bf (zsp s8 + 1)) (zdg bf ((zsp s8 + 1) + 1)) else (zsd s8)))), (a, .inr (6, [.ref b])), (b, .inl (cI, 36, .inl (zsf s8)))] := zD_of hD rfl
          exact z_vret Z (te, zsn s8, if zcq (zoD bf len (zsn s8) (zsd s8) (zsp s8 + 1)) 2 = 2 then (zsm s8) + 1 else (zsm s8), nv, if zcq (zoD bf len (zsn s8) (zsd s8) (zsp s8 + 1)) 2 = 2 then zrdN (zsd s8) (zdg bf (zsp s8 + 1)) (zdg bf ((zsp s8 + 1) + 1)) else (zsd s8), zsf s8) (by first | exact fun z => zsI_P hq8 z (by assumption) hnv | exact fun z => have y := zsI_R hq9 hr8 z hnv; ⟨by rw [zsS_R hq9]; rfl, y.1, y.2.1, by rw [zsS_R hq9]; rfl, y.2.2⟩ | exact fun z => absurd z (by rw [hqa]; decide)) hP hS dX7_readPart_78
    · have c_18 := znle (i := 5) (j := zsn s8) (by decide) (by omega) c_18
      have hq8 : zisP bf s8 := ⟨hb1.2, by omega⟩
      refine lv_aload_n hx hb dX7_readPart_17 rfl (lv_at hl 0 rfl) ?_
      refine lv_dup hx hb dX7_readPart_18 rfl ?_
      refine z_get (ci := 7) (v := .int (nI (zsp s8))) Z zin7 hP 0 rfl rfl 3 (by decide) zm59 rfl rfl dX7_readPart_19 ?_
      refine lv_iconst (v := nI 1) hx hb dX7_readPart_22 (by decide) ?_
      refine lv_iadd hx hb dX7_readPart_23 ?_
      refine z_top (y := nI (zsp s8 + 1)) (z_add _ _) ?_
      refine z_put (ci := 7) (v := .int (nI (zsp s8 + 1))) Z zin7 tyX7 tyX7_ok nmX7 hP hD hS 0 rfl rfl 3 (by decide) zm59 rfl rfl rfl rfl (Nat.le_of_ble_eq_true rfl) dX7_readPart_24 (fun H locs hP hD hS => ?_)
      have hP : va_P D vwCl [(tx, .inr (7, [.ref tb, .ref tt, .int (nI len), .int (nI (zsp s8 + 1)), .int (-9)])), (tb, .inl (cI, 64, .inl bf)), (tt, .inl (cI, 4, .inl te)), (r, .inr (3, [.ref ro, .ref rn, .ref rr, .int rt, .int fr, .int pr, .int (nI (zsn s8)), .int (nI (zsm s8))])), (rn, .inl (cI, 5, .inl nv)), (rr, .inl (cI, 5, .inl (zsd s8))), (a, .inr (6, [.ref b])), (b, .inl (cI, 36, .inl (zsf s8)))] H := hP
      have hD : va_D A [(tx, .inr (7, [.ref tb, .ref tt, .int (nI len), .int (nI (zsp s8 + 1)), .int (-9)])), (tb, .inl (cI, 64, .inl bf)), (tt, .inl (cI, 4, .inl te)), (r, .inr (3, [.ref ro, .ref rn, .ref rr, .int rt, .int fr, .int pr, .int (nI (zsn s8)), .int (nI (zsm s8))])), (rn, .inl (cI, 5, .inl nv)), (rr, .inl (cI, 5, .inl (zsd s8))), (a, .inr (6, [.ref b])), (b, .inl (cI, 36, .inl (zsf s8)))] := hD
      refine lv_aload_n hx hb dX7_readPart_27 rfl (lv_at hl 0 rfl) ?_
      refine lv_aload_n hx hb dX7_readPart_28 rfl (lv_at hl 1 rfl) ?_
      refine lv_aload_n hx hb dX7_readPart_29 rfl (lv_at hl 2 rfl) ?_
      refine z_callVv (As := [.ref r, .ref a]) (rest := []) (ci := 7) (k0 := 0) Z hP hD hS hl.1 (zc_X7_readPerson l D cI cZ tx tb tt len bf r ro rn rr rt fr pr (zsn s8) (zsm s8) a b (zsf s8) te nv (zsp s8 + 1) (by omega) (by omega) (by omega)) zm250 zm251 zm5 zm31 zm252 ⟨rfl, zd_X7_readPerson⟩ ⟨Nat.le_of_ble_eq_true rfl, Nat.le_of_ble_eq_true rfl⟩ ⟨Nat.zero_le _, Nat.zero_le _⟩ [0, 1, 2, 3, 4, 6, 7] rfl (by decide) rfl rfl rfl (fun _ => rfl) rfl (Nat.le_of_ble_eq_true rfl) rfl dX7_readPart_30 (fun u H locs h_34 hP hD hS => ?_)
      obtain ⟨te7, f7⟩ := u
      have hP : va_P D vwCl [(tx, .inr (7, [.ref tb, .ref tt, .int (nI len), .int (nI ((zsp s8 + 1) + zcq (zoP bf len (zsp s8 + 1)) 6)), .int (zft (zsp s8 + 1) (zcq (zoP bf len (zsp s8 + 1)) 6) 6)])), (tb, .inl (cI, 64, .inl bf)), (tt, .inl (cI, 4, .inl te7)), (r, .inr (3, [.ref ro, .ref rn, .ref rr, .int rt, .int fr, .int pr, .int (nI ((zsn s8) + 1)), .int (nI (zsm s8))])), (rn, .inl (cI, 5, .inl (upd nv (zsn s8) (nI (zvd (zoP bf len (zsp s8 + 1)) bf (zsp s8 + 1) 5))))), (rr, .inl (cI, 5, .inl (zsd s8))), (a, .inr (6, [.ref b])), (b, .inl (cI, 36, .inl f7))] H := hP
      have hD : va_D A [(tx, .inr (7, [.ref tb, .ref tt, .int (nI len), .int (nI ((zsp s8 + 1) + zcq (zoP bf len (zsp s8 + 1)) 6)), .int (zft (zsp s8 + 1) (zcq (zoP bf len (zsp s8 + 1)) 6) 6)])), (tb, .inl (cI, 64, .inl bf)), (tt, .inl (cI, 4, .inl te7)), (r, .inr (3, [.ref ro, .ref rn, .ref rr, .int rt, .int fr, .int pr, .int (nI ((zsn s8) + 1)), .int (nI (zsm s8))])), (rn, .inl (cI, 5, .inl (upd nv (zsn s8) (nI (zvd (zoP bf len (zsp s8 + 1)) bf (zsp s8 + 1) 5))))), (rr, .inl (cI, 5, .inl (zsd s8))), (a, .inr (6, [.ref b])), (b, .inl (cI, 36, .inl f7))] := hD
      have h_34 : zcq (zoP bf len (zsp s8 + 1)) 6 = 6 → f7 = zpF (zsf s8) (zsn s8) bf (zsp s8 + 1) := h_34
      have hqa := zsA_P (len := len) hq8
      have hqq := zsQ_P (len := len) hq8
      refine lv_goto (tgt := 78) hx hb dX7_readPart_33 (by decide) ?_
      have e_35 : nI ((zsp s8 + 1) + zcq (zoP bf len (zsp s8 + 1)) 6) = nI (zsQ bf len s8) := by first | (rw [hqq]; done) | exact zft_A hqa hqq | (rw [hqa, hqq]; rfl)
      have hP : va_P D vwCl [(tx, .inr (7, [.ref tb, .ref tt, .int (nI len), .int (nI (zsQ bf len s8)), .int (zft (zsp s8 + 1) (zcq (zoP bf len (zsp s8 + 1)) 6) 6)])), (tb, .inl (cI, 64, .inl bf)), (tt, .inl (cI, 4, .inl te7)), (r, .inr (3, [.ref ro, .ref rn, .ref rr, .int rt, .int fr, .int pr, .int (nI ((zsn s8) + 1)), .int (nI (zsm s8))])), (rn, .inl (cI, 5, .inl (upd nv (zsn s8) (nI (zvd (zoP bf len (zsp s8 + 1)) bf (zsp s8 + 1) 5))))), (rr, .inl (cI, 5, .inl (zsd s8))), (a, .inr (6, [.ref b])), (b, .inl (cI, 36, .inl f7))] H := Eq.subst (motive := fun zz_ => va_P D vwCl [(tx, .inr (7, [.ref tb, .ref tt, .int (nI len), .int zz_, .int (zft (zsp s8 + 1) (zcq (zoP bf len (zsp s8 + 1)) 6) 6)])), (tb, .inl (cI, 64, .inl bf)), (tt, .inl (cI, 4, .inl te7)), (r, .inr (3, [.ref ro, .ref rn, .ref rr, .int rt, .int fr, .int pr, .int (nI ((zsn s8) + 1)), .int (nI (zsm s8))])), (rn, .inl (cI, 5, .inl (upd nv (zsn s8) (nI (zvd (zoP bf len (zsp s8 + 1)) bf (zsp s8 + 1) 5))))), (rr, .inl (cI, 5, .inl (zsd s8))), (a, .inr (6, [.ref b])), (b, .inl (cI, 36, .inl f7))] H) e_35 hP
      have e_36 : zft (zsp s8 + 1) (zcq (zoP bf len (zsp s8 + 1)) 6) 6 = (if zsA bf len s8 = true then -9 else nI (zsQ bf len s8)) := by first | (rw [hqq]; done) | exact zft_A hqa hqq | (rw [hqa, hqq]; rfl)
      have hP : va_P D vwCl [(tx, .inr (7, [.ref tb, .ref tt, .int (nI len), .int (nI (zsQ bf len s8)), .int (if zsA bf len s8 = true then -9 else nI (zsQ bf len s8))])), (tb, .inl (cI, 64, .inl bf)), (tt, .inl (cI, 4, .inl te7)), (r, .inr (3, [.ref ro, .ref rn, .ref rr, .int rt, .int fr, .int pr, .int (nI ((zsn s8) + 1)), .int (nI (zsm s8))])), (rn, .inl (cI, 5, .inl (upd nv (zsn s8) (nI (zvd (zoP bf len (zsp s8 + 1)) bf (zsp s8 + 1) 5))))), (rr, .inl (cI, 5, .inl (zsd s8))), (a, .inr (6, [.ref b])), (b, .inl (cI, 36, .inl f7))] H := Eq.subst (motive := fun zz_ => va_P D vwCl [(tx, .inr (7, [.ref tb, .ref tt, .int (nI len), .int (nI (zsQ bf len s8)), .int zz_])), (tb, .inl (cI, 64, .inl bf)), (tt, .inl (cI, 4, .inl te7)), (r, .inr (3, [.ref ro, .ref rn, .ref rr, .int rt, .int fr, .int pr, .int (nI ((zsn s8) + 1)), .int (nI (zsm s8))])), (rn, .inl (cI, 5, .inl (upd nv (zsn s8) (nI (zvd (zoP bf len (zsp s8 + 1)) bf (zsp s8 + 1) 5))))), (rr, .inl (cI, 5, .inl (zsd s8))), (a, .inr (6, [.ref b])), (b, .inl (cI, 36, .inl f7))] H) e_36 hP
      have hD : va_D A [(tx, .inr (7, [.ref tb, .ref tt, .int (nI len), .int (nI (zsQ bf len s8)), .int (if zsA bf len s8 = true then -9 else nI (zsQ bf len s8))])), (tb, .inl (cI, 64, .inl bf)), (tt, .inl (cI, 4, .inl te7)), (r, .inr (3, [.ref ro, .ref rn, .ref rr, .int rt, .int fr, .int pr, .int (nI ((zsn s8) + 1)), .int (nI (zsm s8))])), (rn, .inl (cI, 5, .inl (upd nv (zsn s8) (nI (zvd (zoP bf len (zsp s8 + 1)) bf (zsp s8 + 1) 5))))), (rr, .inl (cI, 5, .inl (zsd s8))), (a, .inr (6, [.ref b])), (b, .inl (cI, 36, .inl f7))] := zD_of hD rfl
      exact z_vret Z (te7, (zsn s8) + 1, zsm s8, upd nv (zsn s8) (nI (zvd (zoP bf len (zsp s8 + 1)) bf (zsp s8 + 1) 5)), zsd s8, f7) (by first | exact fun z => zsI_P hq8 z (by assumption) hnv | exact fun z => have y := zsI_R hq9 hr8 z hnv; ⟨by rw [zsS_R hq9]; rfl, y.1, y.2.1, by rw [zsS_R hq9]; rfl, y.2.2⟩ | exact fun z => absurd z (by rw [hqa]; decide)) hP hS dX7_readPart_78

theorem dX7_read_0 : decode cX7_read 0 = .ok (.aload_n 1, 1) := by decide +kernel
theorem dX7_read_1 : decode cX7_read 1 = .ok (.invokevirtual 28, 3) := by decide +kernel
theorem dX7_read_4 : decode cX7_read 4 = .ok (.aload_n 2, 1) := by decide +kernel
theorem dX7_read_5 : decode cX7_read 5 = .ok (.invokevirtual 33, 3) := by decide +kernel
theorem dX7_read_8 : decode cX7_read 8 = .ok (.aload_n 0, 1) := by decide +kernel
theorem dX7_read_9 : decode cX7_read 9 = .ok (.iconst 0, 1) := by decide +kernel
theorem dX7_read_10 : decode cX7_read 10 = .ok (.putfield 22, 3) := by decide +kernel
theorem dX7_read_13 : decode cX7_read 13 = .ok (.aload_n 0, 1) := by decide +kernel
theorem dX7_read_14 : decode cX7_read 14 = .ok (.bipush (-9), 2) := by decide +kernel
theorem dX7_read_16 : decode cX7_read 16 = .ok (.putfield 25, 3) := by decide +kernel
theorem dX7_read_19 : decode cX7_read 19 = .ok (.aload_n 0, 1) := by decide +kernel
theorem dX7_read_20 : decode cX7_read 20 = .ok (.aload_n 1, 1) := by decide +kernel
theorem dX7_read_21 : decode cX7_read 21 = .ok (.invokevirtual 38, 3) := by decide +kernel
theorem dX7_read_24 : decode cX7_read 24 = .ok (.iconst 0, 1) := by decide +kernel
theorem dX7_read_25 : decode cX7_read 25 = .ok (.istore_n 3, 1) := by decide +kernel
theorem dX7_read_26 : decode cX7_read 26 = .ok (.iload_n 3, 1) := by decide +kernel
theorem dX7_read_27 : decode cX7_read 27 = .ok (.bipush 64, 2) := by decide +kernel
theorem dX7_read_29 : decode cX7_read 29 = .ok (.if_icmp .ge 35, 3) := by decide +kernel
theorem dX7_read_32 : decode cX7_read 32 = .ok (.aload_n 0, 1) := by decide +kernel
theorem dX7_read_33 : decode cX7_read 33 = .ok (.getfield 25, 3) := by decide +kernel
theorem dX7_read_36 : decode cX7_read 36 = .ok (.bipush (-9), 2) := by decide +kernel
theorem dX7_read_38 : decode cX7_read 38 = .ok (.if_icmp .ne 26, 3) := by decide +kernel
theorem dX7_read_41 : decode cX7_read 41 = .ok (.aload_n 0, 1) := by decide +kernel
theorem dX7_read_42 : decode cX7_read 42 = .ok (.getfield 22, 3) := by decide +kernel
theorem dX7_read_45 : decode cX7_read 45 = .ok (.aload_n 0, 1) := by decide +kernel
theorem dX7_read_46 : decode cX7_read 46 = .ok (.getfield 18, 3) := by decide +kernel
theorem dX7_read_49 : decode cX7_read 49 = .ok (.if_icmp .ge 15, 3) := by decide +kernel
theorem dX7_read_52 : decode cX7_read 52 = .ok (.aload_n 0, 1) := by decide +kernel
theorem dX7_read_53 : decode cX7_read 53 = .ok (.aload_n 1, 1) := by decide +kernel
theorem dX7_read_54 : decode cX7_read 54 = .ok (.aload_n 2, 1) := by decide +kernel
theorem dX7_read_55 : decode cX7_read 55 = .ok (.invokevirtual 42, 3) := by decide +kernel
theorem dX7_read_58 : decode cX7_read 58 = .ok (.iinc 3 1, 3) := by decide +kernel
theorem dX7_read_61 : decode cX7_read 61 = .ok (.goto (-35), 3) := by decide +kernel
theorem dX7_read_64 : decode cX7_read 64 = .ok (.aload_n 0, 1) := by decide +kernel
theorem dX7_read_65 : decode cX7_read 65 = .ok (.getfield 25, 3) := by decide +kernel
theorem dX7_read_68 : decode cX7_read 68 = .ok (.ireturn, 1) := by decide +kernel
theorem zd_X7_read : yX7_read.cls ≠ "java/lang/invoke/MethodHandle" ∧ yX7_read.cls ≠ "java/lang/invoke/VarHandle" ∧ (parseMethodDescriptor yX7_read.desc).map (fun d => d.parameters.length) = some 2 := by decide +kernel
set_option maxHeartbeats 4000000 in
set_option maxRecDepth 100000 in
theorem zc_X7_read (l : Launch) (D : va_G) (cI cZ : ClassId) (tb : Nat) (tt : Nat) (len : Nat) (at_ : Nat) (ft : Int32) (tx : Nat) (bf : Nat → Int32) (r : Nat) (ro : Nat) (rn : Nat) (rr : Nat) (rt : Int32) (fr : Int32) (pr : Int32) (n : Nat) (m : Nat) (a : Nat) (b : Nat) (te : Nat → Int32) (od : Nat → Int32) (nv : Nat → Int32) (rd : Nat → Int32) (f : Nat → Int32) (hlen : len ≤ 64) : zI l yX7_read cX7_read 4 .int 5 109 D cI cZ [.ref tx, .ref r, .ref a] [(tx, .inr (7, [.ref tb, .ref tt, .int (nI len), .int (nI at_), .int ft])), (tb, .inl (cI, 64, .inl bf)), (tt, .inl (cI, 4, .inl te)), (r, .inr (3, [.ref ro, .ref rn, .ref rr, .int rt, .int fr, .int pr, .int (nI n), .int (nI m)])), (ro, .inl (cI, 4, .inl od)), (rn, .inl (cI, 5, .inl nv)), (rr, .inl (cI, 5, .inl rd)), (a, .inr (6, [.ref b])), (b, .inl (cI, 36, .inl f))] (fun (r : Int32) (u : Nat × (Nat → Int32) × Nat × Nat × Int32 × Int32 × Int32 × (Nat → Int32) × (Nat → Int32) × (Nat → Int32) × (Nat → Int32)) => (r = zflt bf len) ∧ (zflt bf len = -9 → zgot bf len u.2.2.1 u.2.2.2.1 u.2.2.2.2.1 u.2.2.2.2.2.1 u.2.2.2.2.2.2.1 u.2.2.2.2.2.2.2.1 u.2.2.2.2.2.2.2.2.1 u.2.2.2.2.2.2.2.2.2.1 u.2.2.2.2.2.2.2.2.2.2)) (fun (u : Nat × (Nat → Int32) × Nat × Nat × Int32 × Int32 × Int32 × (Nat → Int32) × (Nat → Int32) × (Nat → Int32) × (Nat → Int32)) => [(tx, .inr (7, [.ref tb, .ref tt, .int (nI len), .int (nI u.1), .int (zflt bf len)])), (tb, .inl (cI, 64, .inl bf)), (tt, .inl (cI, 4, .inl u.2.1)), (r, .inr (3, [.ref ro, .ref rn, .ref rr, .int u.2.2.2.2.1, .int u.2.2.2.2.2.1, .int u.2.2.2.2.2.2.1, .int (nI u.2.2.1), .int (nI u.2.2.2.1)])), (ro, .inl (cI, 4, .inl u.2.2.2.2.2.2.2.1)), (rn, .inl (cI, 5, .inl u.2.2.2.2.2.2.2.2.1)), (rr, .inl (cI, 5, .inl u.2.2.2.2.2.2.2.2.2.1)), (a, .inr (6, [.ref b])), (b, .inl (cI, 36, .inl u.2.2.2.2.2.2.2.2.2.2))]) := by
  refine zI_of (by decide) (Nat.le_of_ble_eq_true rfl) ?_
  intro pP eE sS mM aA bB mT cC A ls Z hP hD hS hl
  have hx := Z.1
  have hb := Z.2.1
  have hown := Z.2.2.2.2.2.1
  have hts := Z.2.2.2.2.1
  have Z : zAt pP sS mM aA mT cC D cI cZ A "SurpriseTax$Text" cX7_read 4 (some .int) := Z
  have hl : lv_has ls 4 [(0, .ref tx), (1, .ref r), (2, .ref a)] := hl
  obtain ⟨H, hH⟩ : ∃ H, H = sS.heap := ⟨_, rfl⟩
  have hP : va_P D vwCl [(tx, .inr (7, [.ref tb, .ref tt, .int (nI len), .int (nI at_), .int ft])), (tb, .inl (cI, 64, .inl bf)), (tt, .inl (cI, 4, .inl te)), (r, .inr (3, [.ref ro, .ref rn, .ref rr, .int rt, .int fr, .int pr, .int (nI n), .int (nI m)])), (ro, .inl (cI, 4, .inl od)), (rn, .inl (cI, 5, .inl nv)), (rr, .inl (cI, 5, .inl rd)), (a, .inr (6, [.ref b])), (b, .inl (cI, 36, .inl f))] H := by rw [hH]; exact hP
  have hS : va_S A sS.heap H [] := by rw [hH]; exact hS
  rw [← hH]
  clear hH
  obtain ⟨locs, hlo⟩ : ∃ q : List Loc, q = [] := ⟨_, rfl⟩
  rw [← hlo] at hS ⊢
  clear hlo
  refine lv_aload_n hx hb dX7_read_0 rfl (lv_at hl 1 rfl) ?_
  refine z_callVv (As := []) (rest := []) (ci := 3) (k0 := 0) Z hP hD hS hl.1 (zc_X3_sendAllAway l D cI cZ r ro rn rr rt fr pr n m rd ) zm224 zm225 zm226 zm32 zm227 ⟨rfl, zd_X3_sendAllAway⟩ ⟨Nat.le_of_ble_eq_true rfl, Nat.le_of_ble_eq_true rfl⟩ ⟨Nat.zero_le _, Nat.zero_le _⟩ [3, 6] rfl (by decide) rfl rfl rfl (fun _ => rfl) rfl (Nat.le_of_ble_eq_true rfl) rfl dX7_read_1 (fun u H locs h_2 hP hD hS => ?_)
  have hP : va_P D vwCl [(tx, .inr (7, [.ref tb, .ref tt, .int (nI len), .int (nI at_), .int ft])), (tb, .inl (cI, 64, .inl bf)), (tt, .inl (cI, 4, .inl te)), (r, .inr (3, [.ref ro, .ref rn, .ref rr, .int rt, .int fr, .int pr, .int (nI 0), .int (nI 0)])), (ro, .inl (cI, 4, .inl od)), (rn, .inl (cI, 5, .inl nv)), (rr, .inl (cI, 5, .inl (zcl rd 5))), (a, .inr (6, [.ref b])), (b, .inl (cI, 36, .inl f))] H := hP
  have hD : va_D A [(tx, .inr (7, [.ref tb, .ref tt, .int (nI len), .int (nI at_), .int ft])), (tb, .inl (cI, 64, .inl bf)), (tt, .inl (cI, 4, .inl te)), (r, .inr (3, [.ref ro, .ref rn, .ref rr, .int rt, .int fr, .int pr, .int (nI 0), .int (nI 0)])), (ro, .inl (cI, 4, .inl od)), (rn, .inl (cI, 5, .inl nv)), (rr, .inl (cI, 5, .inl (zcl rd 5))), (a, .inr (6, [.ref b])), (b, .inl (cI, 36, .inl f))] := hD
  refine lv_aload_n hx hb dX7_read_4 rfl (lv_at hl 2 rfl) ?_
  refine z_callVv (As := []) (rest := []) (ci := 6) (k0 := 0) Z hP hD hS hl.1 (zc_X6_clear l D cI cZ a b f ) zm228 zm95 zm96 zm33 zm97 ⟨rfl, zd_X6_clear⟩ ⟨Nat.le_of_ble_eq_true rfl, Nat.le_of_ble_eq_true rfl⟩ ⟨Nat.zero_le _, Nat.zero_le _⟩ [7, 8] rfl (by decide) rfl rfl rfl (fun _ => rfl) rfl (Nat.le_of_ble_eq_true rfl) rfl dX7_read_5 (fun u H locs h_4 hP hD hS => ?_)
  have hP : va_P D vwCl [(tx, .inr (7, [.ref tb, .ref tt, .int (nI len), .int (nI at_), .int ft])), (tb, .inl (cI, 64, .inl bf)), (tt, .inl (cI, 4, .inl te)), (r, .inr (3, [.ref ro, .ref rn, .ref rr, .int rt, .int fr, .int pr, .int (nI 0), .int (nI 0)])), (ro, .inl (cI, 4, .inl od)), (rn, .inl (cI, 5, .inl nv)), (rr, .inl (cI, 5, .inl (zcl rd 5))), (a, .inr (6, [.ref b])), (b, .inl (cI, 36, .inl (zfg (zcl f 36) 5)))] H := hP
  have hD : va_D A [(tx, .inr (7, [.ref tb, .ref tt, .int (nI len), .int (nI at_), .int ft])), (tb, .inl (cI, 64, .inl bf)), (tt, .inl (cI, 4, .inl te)), (r, .inr (3, [.ref ro, .ref rn, .ref rr, .int rt, .int fr, .int pr, .int (nI 0), .int (nI 0)])), (ro, .inl (cI, 4, .inl od)), (rn, .inl (cI, 5, .inl nv)), (rr, .inl (cI, 5, .inl (zcl rd 5))), (a, .inr (6, [.ref b])), (b, .inl (cI, 36, .inl (zfg (zcl f 36) 5)))] := hD
  refine lv_aload_n hx hb dX7_read_8 rfl (lv_at hl 0 rfl) ?_
  refine lv_iconst (v := nI 0) hx hb dX7_read_9 (by decide) ?_
  refine z_put (ci := 7) (v := .int (nI 0)) Z zin7 tyX7 tyX7_ok nmX7 hP hD hS 0 rfl rfl 3 (by decide) zm59 rfl rfl rfl rfl (Nat.le_of_ble_eq_true rfl) dX7_read_10 (fun H locs hP hD hS => ?_)
  have hP : va_P D vwCl [(tx, .inr (7, [.ref tb, .ref tt, .int (nI len), .int (nI 0), .int ft])), (tb, .inl (cI, 64, .inl bf)), (tt, .inl (cI, 4, .inl te)), (r, .inr (3, [.ref ro, .ref rn, .ref rr, .int rt, .int fr, .int pr, .int (nI 0), .int (nI 0)])), (ro, .inl (cI, 4, .inl od)), (rn, .inl (cI, 5, .inl nv)), (rr, .inl (cI, 5, .inl (zcl rd 5))), (a, .inr (6, [.ref b])), (b, .inl (cI, 36, .inl (zfg (zcl f 36) 5)))] H := hP
  have hD : va_D A [(tx, .inr (7, [.ref tb, .ref tt, .int (nI len), .int (nI 0), .int ft])), (tb, .inl (cI, 64, .inl bf)), (tt, .inl (cI, 4, .inl te)), (r, .inr (3, [.ref ro, .ref rn, .ref rr, .int rt, .int fr, .int pr, .int (nI 0), .int (nI 0)])), (ro, .inl (cI, 4, .inl od)), (rn, .inl (cI, 5, .inl nv)), (rr, .inl (cI, 5, .inl (zcl rd 5))), (a, .inr (6, [.ref b])), (b, .inl (cI, 36, .inl (zfg (zcl f 36) 5)))] := hD
  refine lv_aload_n hx hb dX7_read_13 rfl (lv_at hl 0 rfl) ?_
  refine lv_bipush (v := -9) hx hb dX7_read_14 (by decide) ?_
  refine z_put (ci := 7) (v := .int (-9)) Z zin7 tyX7 tyX7_ok nmX7 hP hD hS 0 rfl rfl 4 (by decide) zm60 rfl rfl rfl rfl (Nat.le_of_ble_eq_true rfl) dX7_read_16 (fun H locs hP hD hS => ?_)
  have hP : va_P D vwCl [(tx, .inr (7, [.ref tb, .ref tt, .int (nI len), .int (nI 0), .int (-9)])), (tb, .inl (cI, 64, .inl bf)), (tt, .inl (cI, 4, .inl te)), (r, .inr (3, [.ref ro, .ref rn, .ref rr, .int rt, .int fr, .int pr, .int (nI 0), .int (nI 0)])), (ro, .inl (cI, 4, .inl od)), (rn, .inl (cI, 5, .inl nv)), (rr, .inl (cI, 5, .inl (zcl rd 5))), (a, .inr (6, [.ref b])), (b, .inl (cI, 36, .inl (zfg (zcl f 36) 5)))] H := hP
  have hD : va_D A [(tx, .inr (7, [.ref tb, .ref tt, .int (nI len), .int (nI 0), .int (-9)])), (tb, .inl (cI, 64, .inl bf)), (tt, .inl (cI, 4, .inl te)), (r, .inr (3, [.ref ro, .ref rn, .ref rr, .int rt, .int fr, .int pr, .int (nI 0), .int (nI 0)])), (ro, .inl (cI, 4, .inl od)), (rn, .inl (cI, 5, .inl nv)), (rr, .inl (cI, 5, .inl (zcl rd 5))), (a, .inr (6, [.ref b])), (b, .inl (cI, 36, .inl (zfg (zcl f 36) 5)))] := hD
  refine lv_aload_n hx hb dX7_read_19 rfl (lv_at hl 0 rfl) ?_
  refine lv_aload_n hx hb dX7_read_20 rfl (lv_at hl 1 rfl) ?_
  refine z_callVv (As := [.ref r]) (rest := []) (ci := 7) (k0 := 0) Z hP hD hS hl.1 (zc_X7_readLaw l D cI cZ tx tb tt len bf r ro rn rr rt fr pr 0 0 te od (by omega)) zm229 zm230 zm0 zm31 zm231 ⟨rfl, zd_X7_readLaw⟩ ⟨Nat.le_of_ble_eq_true rfl, Nat.le_of_ble_eq_true rfl⟩ ⟨Nat.zero_le _, Nat.zero_le _⟩ [0, 1, 2, 3, 4] rfl (by decide) rfl rfl rfl (fun _ => rfl) rfl (Nat.le_of_ble_eq_true rfl) rfl dX7_read_21 (fun u H locs h_6 hP hD hS => ?_)
  obtain ⟨te7, rt7, fr7, pr7, od7⟩ := u
  have hP : va_P D vwCl [(tx, .inr (7, [.ref tb, .ref tt, .int (nI len), .int (nI (if zlw bf len then 1 + (zcq (zoL bf len) 7) else 0)), .int (if zlw bf len then zft 1 (zcq (zoL bf len) 7) 7 else nI 0)])), (tb, .inl (cI, 64, .inl bf)), (tt, .inl (cI, 4, .inl te7)), (r, .inr (3, [.ref ro, .ref rn, .ref rr, .int rt7, .int fr7, .int pr7, .int (nI 0), .int (nI 0)])), (ro, .inl (cI, 4, .inl od7)), (rn, .inl (cI, 5, .inl nv)), (rr, .inl (cI, 5, .inl (zcl rd 5))), (a, .inr (6, [.ref b])), (b, .inl (cI, 36, .inl (zfg (zcl f 36) 5)))] H := hP
  have hD : va_D A [(tx, .inr (7, [.ref tb, .ref tt, .int (nI len), .int (nI (if zlw bf len then 1 + (zcq (zoL bf len) 7) else 0)), .int (if zlw bf len then zft 1 (zcq (zoL bf len) 7) 7 else nI 0)])), (tb, .inl (cI, 64, .inl bf)), (tt, .inl (cI, 4, .inl te7)), (r, .inr (3, [.ref ro, .ref rn, .ref rr, .int rt7, .int fr7, .int pr7, .int (nI 0), .int (nI 0)])), (ro, .inl (cI, 4, .inl od7)), (rn, .inl (cI, 5, .inl nv)), (rr, .inl (cI, 5, .inl (zcl rd 5))), (a, .inr (6, [.ref b])), (b, .inl (cI, 36, .inl (zfg (zcl f 36) 5)))] := hD
  have h_6 : zlw bf len → (zcq (zoL bf len) 7) = 7 → rt7 = nI (zdg bf 1) ∧ fr7 = nI (zdg bf 2) ∧ pr7 = nI (zdg bf 3) ∧ ∀ k, k < 4 → od7 k = nI (zdg bf (4 + k)) := h_6
  have hlx := h_6
  by_cases hlw : zlw bf len ∧ zcq (zoL bf len) 7 = 7
  · have e_7 : (if zlw bf len then zft 1 (zcq (zoL bf len) 7) 7 else nI 0) = -9 := by rw [if_pos hlw.1, zft, if_pos hlw.2]
    have hP : va_P D vwCl [(tx, .inr (7, [.ref tb, .ref tt, .int (nI len), .int (nI (if zlw bf len then 1 + (zcq (zoL bf len) 7) else 0)), .int (-9)])), (tb, .inl (cI, 64, .inl bf)), (tt, .inl (cI, 4, .inl te7)), (r, .inr (3, [.ref ro, .ref rn, .ref rr, .int rt7, .int fr7, .int pr7, .int (nI 0), .int (nI 0)])), (ro, .inl (cI, 4, .inl od7)), (rn, .inl (cI, 5, .inl nv)), (rr, .inl (cI, 5, .inl (zcl rd 5))), (a, .inr (6, [.ref b])), (b, .inl (cI, 36, .inl (zfg (zcl f 36) 5)))] H := Eq.subst (motive := fun zz_ => va_P D vwCl [(tx, .inr (7, [.ref tb, .ref tt, .int (nI len), .int (nI (if zlw bf len then 1 + (zcq (zoL bf len) 7) else 0)), .int zz_])), (tb, .inl (cI, 64, .inl bf)), (tt, .inl (cI, 4, .inl te7)), (r, .inr (3, [.ref ro, .ref rn, .ref rr, .int rt7, .int fr7, .int pr7, .int (nI 0), .int (nI 0)])), (ro, .inl (cI, 4, .inl od7)), (rn, .inl (cI, 5, .inl nv)), (rr, .inl (cI, 5, .inl (zcl rd 5))), (a, .inr (6, [.ref b])), (b, .inl (cI, 36, .inl (zfg (zcl f 36) 5)))] H) e_7 hP
    have hD : va_D A [(tx, .inr (7, [.ref tb, .ref tt, .int (nI len), .int (nI (if zlw bf len then 1 + (zcq (zoL bf len) 7) else 0)), .int (-9)])), (tb, .inl (cI, 64, .inl bf)), (tt, .inl (cI, 4, .inl te7)), (r, .inr (3, [.ref ro, .ref rn, .ref rr, .int rt7, .int fr7, .int pr7, .int (nI 0), .int (nI 0)])), (ro, .inl (cI, 4, .inl od7)), (rn, .inl (cI, 5, .inl nv)), (rr, .inl (cI, 5, .inl (zcl rd 5))), (a, .inr (6, [.ref b])), (b, .inl (cI, 36, .inl (zfg (zcl f 36) 5)))] := zD_of hD rfl
    have e_8 : nI (if zlw bf len then 1 + (zcq (zoL bf len) 7) else 0) = nI (zsp zs0) := by rw [if_pos hlw.1, hlw.2]; rfl
    have hP : va_P D vwCl [(tx, .inr (7, [.ref tb, .ref tt, .int (nI len), .int (nI (zsp zs0)), .int (-9)])), (tb, .inl (cI, 64, .inl bf)), (tt, .inl (cI, 4, .inl te7)), (r, .inr (3, [.ref ro, .ref rn, .ref rr, .int rt7, .int fr7, .int pr7, .int (nI 0), .int (nI 0)])), (ro, .inl (cI, 4, .inl od7)), (rn, .inl (cI, 5, .inl nv)), (rr, .inl (cI, 5, .inl (zcl rd 5))), (a, .inr (6, [.ref b])), (b, .inl (cI, 36, .inl (zfg (zcl f 36) 5)))] H := Eq.subst (motive := fun zz_ => va_P D vwCl [(tx, .inr (7, [.ref tb, .ref tt, .int (nI len), .int zz_, .int (-9)])), (tb, .inl (cI, 64, .inl bf)), (tt, .inl (cI, 4, .inl te7)), (r, .inr (3, [.ref ro, .ref rn, .ref rr, .int rt7, .int fr7, .int pr7, .int (nI 0), .int (nI 0)])), (ro, .inl (cI, 4, .inl od7)), (rn, .inl (cI, 5, .inl nv)), (rr, .inl (cI, 5, .inl (zcl rd 5))), (a, .inr (6, [.ref b])), (b, .inl (cI, 36, .inl (zfg (zcl f 36) 5)))] H) e_8 hP
    have hD : va_D A [(tx, .inr (7, [.ref tb, .ref tt, .int (nI len), .int (nI (zsp zs0)), .int (-9)])), (tb, .inl (cI, 64, .inl bf)), (tt, .inl (cI, 4, .inl te7)), (r, .inr (3, [.ref ro, .ref rn, .ref rr, .int rt7, .int fr7, .int pr7, .int (nI 0), .int (nI 0)])), (ro, .inl (cI, 4, .inl od7)), (rn, .inl (cI, 5, .inl nv)), (rr, .inl (cI, 5, .inl (zcl rd 5))), (a, .inr (6, [.ref b])), (b, .inl (cI, 36, .inl (zfg (zcl f 36) 5)))] := zD_of hD rfl
    have e_9 : nI 0 = nI (zsn zs0) := by rfl
    have hP : va_P D vwCl [(tx, .inr (7, [.ref tb, .ref tt, .int (nI len), .int (nI (zsp zs0)), .int (-9)])), (tb, .inl (cI, 64, .inl bf)), (tt, .inl (cI, 4, .inl te7)), (r, .inr (3, [.ref ro, .ref rn, .ref rr, .int rt7, .int fr7, .int pr7, .int (nI (zsn zs0)), .int (nI 0)])), (ro, .inl (cI, 4, .inl od7)), (rn, .inl (cI, 5, .inl nv)), (rr, .inl (cI, 5, .inl (zcl rd 5))), (a, .inr (6, [.ref b])), (b, .inl (cI, 36, .inl (zfg (zcl f 36) 5)))] H := Eq.subst (motive := fun zz_ => va_P D vwCl [(tx, .inr (7, [.ref tb, .ref tt, .int (nI len), .int (nI (zsp zs0)), .int (-9)])), (tb, .inl (cI, 64, .inl bf)), (tt, .inl (cI, 4, .inl te7)), (r, .inr (3, [.ref ro, .ref rn, .ref rr, .int rt7, .int fr7, .int pr7, .int zz_, .int (nI 0)])), (ro, .inl (cI, 4, .inl od7)), (rn, .inl (cI, 5, .inl nv)), (rr, .inl (cI, 5, .inl (zcl rd 5))), (a, .inr (6, [.ref b])), (b, .inl (cI, 36, .inl (zfg (zcl f 36) 5)))] H) e_9 hP
    have hD : va_D A [(tx, .inr (7, [.ref tb, .ref tt, .int (nI len), .int (nI (zsp zs0)), .int (-9)])), (tb, .inl (cI, 64, .inl bf)), (tt, .inl (cI, 4, .inl te7)), (r, .inr (3, [.ref ro, .ref rn, .ref rr, .int rt7, .int fr7, .int pr7, .int (nI (zsn zs0)), .int (nI 0)])), (ro, .inl (cI, 4, .inl od7)), (rn, .inl (cI, 5, .inl nv)), (rr, .inl (cI, 5, .inl (zcl rd 5))), (a, .inr (6, [.ref b])), (b, .inl (cI, 36, .inl (zfg (zcl f 36) 5)))] := zD_of hD rfl
    have e_10 : nI 0 = nI (zsm zs0) := by rfl
    have hP : va_P D vwCl [(tx, .inr (7, [.ref tb, .ref tt, .int (nI len), .int (nI (zsp zs0)), .int (-9)])), (tb, .inl (cI, 64, .inl bf)), (tt, .inl (cI, 4, .inl te7)), (r, .inr (3, [.ref ro, .ref rn, .ref rr, .int rt7, .int fr7, .int pr7, .int (nI (zsn zs0)), .int (nI (zsm zs0))])), (ro, .inl (cI, 4, .inl od7)), (rn, .inl (cI, 5, .inl nv)), (rr, .inl (cI, 5, .inl (zcl rd 5))), (a, .inr (6, [.ref b])), (b, .inl (cI, 36, .inl (zfg (zcl f 36) 5)))] H := Eq.subst (motive := fun zz_ => va_P D vwCl [(tx, .inr (7, [.ref tb, .ref tt, .int (nI len), .int (nI (zsp zs0)), .int (-9)])), (tb, .inl (cI, 64, .inl bf)), (tt, .inl (cI, 4, .inl te7)), (r, .inr (3, [.ref ro, .ref rn, .ref rr, .int rt7, .int fr7, .int pr7, .int (nI (zsn zs0)), .int zz_])), (ro, .inl (cI, 4, .inl od7)), (rn, .inl (cI, 5, .inl nv)), (rr, .inl (cI, 5, .inl (zcl rd 5))), (a, .inr (6, [.ref b])), (b, .inl (cI, 36, .inl (zfg (zcl f 36) 5)))] H) e_10 hP
    have hD : va_D A [(tx, .inr (7, [.ref tb, .ref tt, .int (nI len), .int (nI (zsp zs0)), .int (-9)])), (tb, .inl (cI, 64, .inl bf)), (tt, .inl (cI, 4, .inl te7)), (r, .inr (3, [.ref ro, .ref rn, .ref rr, .int rt7, .int fr7, .int pr7, .int (nI (zsn zs0)), .int (nI (zsm zs0))])), (ro, .inl (cI, 4, .inl od7)), (rn, .inl (cI, 5, .inl nv)), (rr, .inl (cI, 5, .inl (zcl rd 5))), (a, .inr (6, [.ref b])), (b, .inl (cI, 36, .inl (zfg (zcl f 36) 5)))] := zD_of hD rfl
    have hP : va_P D vwCl [(tx, .inr (7, [.ref tb, .ref tt, .int (nI len), .int (nI (zsp zs0)), .int (-9)])), (tb, .inl (cI, 64, .inl bf)), (tt, .inl (cI, 4, .inl te7)), (r, .inr (3, [.ref ro, .ref rn, .ref rr, .int rt7, .int fr7, .int pr7, .int (nI (zsn zs0)), .int (nI (zsm zs0))])), (ro, .inl (cI, 4, .inl od7)), (rn, .inl (cI, 5, .inl nv)), (rr, .inl (cI, 5, .inl (zsd zs0))), (a, .inr (6, [.ref b])), (b, .inl (cI, 36, .inl (zfg (zcl f 36) 5)))] H := z_arr (g := zsd zs0) 6 rfl (by exact zcl0_eq) hP
    have hD : va_D A [(tx, .inr (7, [.ref tb, .ref tt, .int (nI len), .int (nI (zsp zs0)), .int (-9)])), (tb, .inl (cI, 64, .inl bf)), (tt, .inl (cI, 4, .inl te7)), (r, .inr (3, [.ref ro, .ref rn, .ref rr, .int rt7, .int fr7, .int pr7, .int (nI (zsn zs0)), .int (nI (zsm zs0))])), (ro, .inl (cI, 4, .inl od7)), (rn, .inl (cI, 5, .inl nv)), (rr, .inl (cI, 5, .inl (zsd zs0))), (a, .inr (6, [.ref b])), (b, .inl (cI, 36, .inl (zfg (zcl f 36) 5)))] := zD_of hD rfl
    have hP : va_P D vwCl [(tx, .inr (7, [.ref tb, .ref tt, .int (nI len), .int (nI (zsp zs0)), .int (-9)])), (tb, .inl (cI, 64, .inl bf)), (tt, .inl (cI, 4, .inl te7)), (r, .inr (3, [.ref ro, .ref rn, .ref rr, .int rt7, .int fr7, .int pr7, .int (nI (zsn zs0)), .int (nI (zsm zs0))])), (ro, .inl (cI, 4, .inl od7)), (rn, .inl (cI, 5, .inl nv)), (rr, .inl (cI, 5, .inl (zsd zs0))), (a, .inr (6, [.ref b])), (b, .inl (cI, 36, .inl (zsf zs0)))] H := z_arr (g := zsf zs0) 8 rfl (by exact zF0_eq) hP
    have hD : va_D A [(tx, .inr (7, [.ref tb, .ref tt, .int (nI len), .int (nI (zsp zs0)), .int (-9)])), (tb, .inl (cI, 64, .inl bf)), (tt, .inl (cI, 4, .inl te7)), (r, .inr (3, [.ref ro, .ref rn, .ref rr, .int rt7, .int fr7, .int pr7, .int (nI (zsn zs0)), .int (nI (zsm zs0))])), (ro, .inl (cI, 4, .inl od7)), (rn, .inl (cI, 5, .inl nv)), (rr, .inl (cI, 5, .inl (zsd zs0))), (a, .inr (6, [.ref b])), (b, .inl (cI, 36, .inl (zsf zs0)))] := zD_of hD rfl
    have hl8 := zlw_8 hlw.2
    have hgl := hlx hlw.1 hlw.2
    have hI0 := zsI_0 hl8.1
    refine lv_iconst (v := nI 0) hx hb dX7_read_24 (by decide) ?_
    refine lv_istore_n (lv' := [(3, .int (nI 0)), (0, .ref tx), (1, .ref r), (2, .ref a)]) hx hb dX7_read_25 rfl hl (by decide) rfl (fun ls hl => ?_)
    have hl : lv_has ls 4 [(3, .int (nI 0)), (0, .ref tx), (1, .ref r), (2, .ref a)] := lv_sub hl [0, 1, 2, 3] rfl
    refine z_loopm (fun (x_ : Nat × zSt × (Nat → Int32) × (Nat → Int32)) H locs ls => va_P D vwCl [(tx, .inr (7, [.ref tb, .ref tt, .int (nI len), .int (nI (zsp x_.2.1)), .int (-9)])), (tb, .inl (cI, 64, .inl bf)), (tt, .inl (cI, 4, .inl x_.2.2.1)), (r, .inr (3, [.ref ro, .ref rn, .ref rr, .int rt7, .int fr7, .int pr7, .int (nI (zsn x_.2.1)), .int (nI (zsm x_.2.1))])), (ro, .inl (cI, 4, .inl od7)), (rn, .inl (cI, 5, .inl x_.2.2.2)), (rr, .inl (cI, 5, .inl (zsd x_.2.1))), (a, .inr (6, [.ref b])), (b, .inl (cI, 36, .inl (zsf x_.2.1)))] H ∧ va_D A [(tx, .inr (7, [.ref tb, .ref tt, .int (nI len), .int (nI (zsp x_.2.1)), .int (-9)])), (tb, .inl (cI, 64, .inl bf)), (tt, .inl (cI, 4, .inl x_.2.2.1)), (r, .inr (3, [.ref ro, .ref rn, .ref rr, .int rt7, .int fr7, .int pr7, .int (nI (zsn x_.2.1)), .int (nI (zsm x_.2.1))])), (ro, .inl (cI, 4, .inl od7)), (rn, .inl (cI, 5, .inl x_.2.2.2)), (rr, .inl (cI, 5, .inl (zsd x_.2.1))), (a, .inr (6, [.ref b])), (b, .inl (cI, 36, .inl (zsf x_.2.1)))] ∧ va_S A sS.heap H locs ∧ lv_has ls 4 [(3, .int (nI x_.1)), (0, .ref tx), (1, .ref r), (2, .ref a)] ∧ (x_.1 ≤ 64) ∧ (zsI len x_.2.1) ∧ (x_.1 ≤ zsp x_.2.1) ∧ (zend bf len (64 - x_.1) x_.2.1 = zS bf len) ∧ (∀ i, i < zsn x_.2.1 → x_.2.2.2 i = zsv x_.2.1 i)) (fun x_ => 64 - x_.1) (0, zs0, te7, nv) ⟨hP, hD, hS, hl, (by first | exact Nat.zero_le _ | exact hI0 | rfl | exact fun i hi => absurd hi (Nat.not_lt_zero _)), (by first | exact Nat.zero_le _ | exact hI0 | rfl | exact fun i hi => absurd hi (Nat.not_lt_zero _)), (by first | exact Nat.zero_le _ | exact hI0 | rfl | exact fun i hi => absurd hi (Nat.not_lt_zero _)), (by first | exact Nat.zero_le _ | exact hI0 | rfl | exact fun i hi => absurd hi (Nat.not_lt_zero _)), (by first | exact Nat.zero_le _ | exact hI0 | rfl | exact fun i hi => absurd hi (Nat.not_lt_zero _))⟩ (fun x_ ih_11 H locs ls hI => ?_)
    obtain ⟨t, s8, te9, nv9⟩ := x_
    obtain ⟨hP, hD, hS, hl, hv26_0, hv26_1, hv26_2, hv26_3, hv26_4⟩ := hI
    dsimp only at ih_11 hv26_0 hv26_1 hv26_2 hv26_3 hv26_4
    have hv26_0 : t ≤ 64 := hv26_0
    have hv26_1 : zsI len s8 := hv26_1
    have hv26_2 : t ≤ zsp s8 := hv26_2
    have hv26_3 : zend bf len (64 - t) s8 = zS bf len := hv26_3
    have hv26_4 : ∀ i, i < zsn s8 → nv9 i = zsv s8 i := hv26_4
    have hP : va_P D vwCl [(tx, .inr (7, [.ref tb, .ref tt, .int (nI len), .int (nI (zsp s8)), .int (-9)])), (tb, .inl (cI, 64, .inl bf)), (tt, .inl (cI, 4, .inl te9)), (r, .inr (3, [.ref ro, .ref rn, .ref rr, .int rt7, .int fr7, .int pr7, .int (nI (zsn s8)), .int (nI (zsm s8))])), (ro, .inl (cI, 4, .inl od7)), (rn, .inl (cI, 5, .inl nv9)), (rr, .inl (cI, 5, .inl (zsd s8))), (a, .inr (6, [.ref b])), (b, .inl (cI, 36, .inl (zsf s8)))] H := hP
    have hD : va_D A [(tx, .inr (7, [.ref tb, .ref tt, .int (nI len), .int (nI (zsp s8)), .int (-9)])), (tb, .inl (cI, 64, .inl bf)), (tt, .inl (cI, 4, .inl te9)), (r, .inr (3, [.ref ro, .ref rn, .ref rr, .int rt7, .int fr7, .int pr7, .int (nI (zsn s8)), .int (nI (zsm s8))])), (ro, .inl (cI, 4, .inl od7)), (rn, .inl (cI, 5, .inl nv9)), (rr, .inl (cI, 5, .inl (zsd s8))), (a, .inr (6, [.ref b])), (b, .inl (cI, 36, .inl (zsf s8)))] := hD
    have hl : lv_has ls 4 [(3, .int (nI t)), (0, .ref tx), (1, .ref r), (2, .ref a)] := hl
    have hpl : zsp s8 ≤ len := hv26_1.1
    refine lv_iload_n hx hb dX7_read_26 rfl (lv_at hl 0 rfl) ?_
    refine lv_bipush (v := nI 64) hx hb dX7_read_27 (by decide) ?_
    refine lv_icmp_ge (tgt := 64) hx hb dX7_read_29 (by decide) (fun c_12 => ?_) (fun c_12 => ?_)
    · have c_12 := zle (i := 64) (j := t) (by decide) (by omega) c_12
      have hSe : zS bf len = s8 := by first | exact zS_64 hv26_3 (by omega) | exact zS_end hv26_3 (fun z => absurd z.1 (by omega))
      have hnl : ¬ zsp s8 < len := by omega
      have hfl : (-9 : Int32) = zflt bf len := by rw [zflt_y hlw.1 hlw.2, hSe, zsR, if_neg hnl]
      have e_13 : -9 = zflt bf len := by exact hfl
      have hP : va_P D vwCl [(tx, .inr (7, [.ref tb, .ref tt, .int (nI len), .int (nI (zsp s8)), .int (zflt bf len)])), (tb, .inl (cI, 64, .inl bf)), (tt, .inl (cI, 4, .inl te9)), (r, .inr (3, [.ref ro, .ref rn, .ref rr, .int rt7, .int fr7, .int pr7, .int (nI (zsn s8)), .int (nI (zsm s8))])), (ro, .inl (cI, 4, .inl od7)), (rn, .inl (cI, 5, .inl nv9)), (rr, .inl (cI, 5, .inl (zsd s8))), (a, .inr (6, [.ref b])), (b, .inl (cI, 36, .inl (zsf s8)))] H := Eq.subst (motive := fun zz_ => va_P D vwCl [(tx, .inr (7, [.ref tb, .ref tt, .int (nI len), .int (nI (zsp s8)), .int zz_])), (tb, .inl (cI, 64, .inl bf)), (tt, .inl (cI, 4, .inl te9)), (r, .inr (3, [.ref ro, .ref rn, .ref rr, .int rt7, .int fr7, .int pr7, .int (nI (zsn s8)), .int (nI (zsm s8))])), (ro, .inl (cI, 4, .inl od7)), (rn, .inl (cI, 5, .inl nv9)), (rr, .inl (cI, 5, .inl (zsd s8))), (a, .inr (6, [.ref b])), (b, .inl (cI, 36, .inl (zsf s8)))] H) e_13 hP
      have hD : va_D A [(tx, .inr (7, [.ref tb, .ref tt, .int (nI len), .int (nI (zsp s8)), .int (zflt bf len)])), (tb, .inl (cI, 64, .inl bf)), (tt, .inl (cI, 4, .inl te9)), (r, .inr (3, [.ref ro, .ref rn, .ref rr, .int rt7, .int fr7, .int pr7, .int (nI (zsn s8)), .int (nI (zsm s8))])), (ro, .inl (cI, 4, .inl od7)), (rn, .inl (cI, 5, .inl nv9)), (rr, .inl (cI, 5, .inl (zsd s8))), (a, .inr (6, [.ref b])), (b, .inl (cI, 36, .inl (zsf s8)))] := zD_of hD rfl
      refine lv_aload_n hx hb dX7_read_64 rfl (lv_at hl 1 rfl) ?_
      refine z_get (ci := 7) (v := .int (zflt bf len)) Z zin7 hP 0 rfl rfl 4 (by decide) zm60 rfl rfl dX7_read_65 ?_
      exact z_iret Z (zsp s8, te9, zsn s8, zsm s8, rt7, fr7, pr7, od7, nv9, zsd s8, zsf s8) ⟨rfl, (by first | exact fun z => absurd z hne | exact fun _ => (by rw [zgot, hSe]; exact ⟨⟨rfl, rfl, rfl, rfl, hv26_4⟩, hgl⟩))⟩ hP hS dX7_read_68
    · have c_12 := znle (i := 64) (j := t) (by decide) (by omega) c_12
      refine lv_aload_n hx hb dX7_read_32 rfl (lv_at hl 1 rfl) ?_
      refine z_get (ci := 7) (v := .int (-9)) Z zin7 hP 0 rfl rfl 4 (by decide) zm60 rfl rfl dX7_read_33 ?_
      refine lv_bipush (v := -9) hx hb dX7_read_36 (by decide) ?_
      refine lv_icmp_ne (tgt := 64) hx hb dX7_read_38 (by decide) (fun c_14 => ?_) (fun c_14 => ?_)
      · have c_14 : ¬ ((-9 : Int32) = (-9 : Int32)) := c_14
        exact absurd rfl c_14
      · have c_14 : (-9 : Int32) = (-9 : Int32) := c_14
        refine lv_aload_n hx hb dX7_read_41 rfl (lv_at hl 1 rfl) ?_
        refine z_get (ci := 7) (v := .int (nI (zsp s8))) Z zin7 hP 0 rfl rfl 3 (by decide) zm59 rfl rfl dX7_read_42 ?_
        refine lv_aload_n hx hb dX7_read_45 rfl (lv_at hl 1 rfl) ?_
        refine z_get (ci := 7) (v := .int (nI len)) Z zin7 hP 0 rfl rfl 2 (by decide) zm58 rfl rfl dX7_read_46 ?_
        refine lv_icmp_ge (tgt := 64) hx hb dX7_read_49 (by decide) (fun c_15 => ?_) (fun c_15 => ?_)
        · have c_15 := zle (i := len) (j := zsp s8) (by omega) (by omega) c_15
          have hSe : zS bf len = s8 := by first | exact zS_64 hv26_3 (by omega) | exact zS_end hv26_3 (fun z => absurd z.1 (by omega))
          have hnl : ¬ zsp s8 < len := by omega
          have hfl : (-9 : Int32) = zflt bf len := by rw [zflt_y hlw.1 hlw.2, hSe, zsR, if_neg hnl]
          have e_16 : -9 = zflt bf len := by exact hfl
          have hP : va_P D vwCl [(tx, .inr (7, [.ref tb, .ref tt, .int (nI len), .int (nI (zsp s8)), .int (zflt bf len)])), (tb, .inl (cI, 64, .inl bf)), (tt, .inl (cI, 4, .inl te9)), (r, .inr (3, [.ref ro, .ref rn, .ref rr, .int rt7, .int fr7, .int pr7, .int (nI (zsn s8)), .int (nI (zsm s8))])), (ro, .inl (cI, 4, .inl od7)), (rn, .inl (cI, 5, .inl nv9)), (rr, .inl (cI, 5, .inl (zsd s8))), (a, .inr (6, [.ref b])), (b, .inl (cI, 36, .inl (zsf s8)))] H := Eq.subst (motive := fun zz_ => va_P D vwCl [(tx, .inr (7, [.ref tb, .ref tt, .int (nI len), .int (nI (zsp s8)), .int zz_])), (tb, .inl (cI, 64, .inl bf)), (tt, .inl (cI, 4, .inl te9)), (r, .inr (3, [.ref ro, .ref rn, .ref rr, .int rt7, .int fr7, .int pr7, .int (nI (zsn s8)), .int (nI (zsm s8))])), (ro, .inl (cI, 4, .inl od7)), (rn, .inl (cI, 5, .inl nv9)), (rr, .inl (cI, 5, .inl (zsd s8))), (a, .inr (6, [.ref b])), (b, .inl (cI, 36, .inl (zsf s8)))] H) e_16 hP
          have hD : va_D A [(tx, .inr (7, [.ref tb, .ref tt, .int (nI len), .int (nI (zsp s8)), .int (zflt bf len)])), (tb, .inl (cI, 64, .inl bf)), (tt, .inl (cI, 4, .inl te9)), (r, .inr (3, [.ref ro, .ref rn, .ref rr, .int rt7, .int fr7, .int pr7, .int (nI (zsn s8)), .int (nI (zsm s8))])), (ro, .inl (cI, 4, .inl od7)), (rn, .inl (cI, 5, .inl nv9)), (rr, .inl (cI, 5, .inl (zsd s8))), (a, .inr (6, [.ref b])), (b, .inl (cI, 36, .inl (zsf s8)))] := zD_of hD rfl
          refine lv_aload_n hx hb dX7_read_64 rfl (lv_at hl 1 rfl) ?_
          refine z_get (ci := 7) (v := .int (zflt bf len)) Z zin7 hP 0 rfl rfl 4 (by decide) zm60 rfl rfl dX7_read_65 ?_
          exact z_iret Z (zsp s8, te9, zsn s8, zsm s8, rt7, fr7, pr7, od7, nv9, zsd s8, zsf s8) ⟨rfl, (by first | exact fun z => absurd z hne | exact fun _ => (by rw [zgot, hSe]; exact ⟨⟨rfl, rfl, rfl, rfl, hv26_4⟩, hgl⟩))⟩ hP hS dX7_read_68
        · have c_15 := znle (i := len) (j := zsp s8) (by omega) (by omega) c_15
          refine lv_aload_n hx hb dX7_read_52 rfl (lv_at hl 1 rfl) ?_
          refine lv_aload_n hx hb dX7_read_53 rfl (lv_at hl 2 rfl) ?_
          refine lv_aload_n hx hb dX7_read_54 rfl (lv_at hl 3 rfl) ?_
          refine z_callVv (As := [.ref r, .ref a]) (rest := []) (ci := 7) (k0 := 0) Z hP hD hS hl.1 (zc_X7_readPart l D cI cZ tx tb tt len bf r ro rn rr rt7 fr7 pr7 a b s8 te9 nv9 (by omega) (by exact hv26_1) (by omega) (by exact hv26_4)) zm247 zm248 zm4 zm31 zm249 ⟨rfl, zd_X7_readPart⟩ ⟨Nat.le_of_ble_eq_true rfl, Nat.le_of_ble_eq_true rfl⟩ ⟨Nat.zero_le _, Nat.zero_le _⟩ [0, 1, 2, 3, 5, 6, 7, 8] rfl (by decide) rfl rfl rfl (fun _ => rfl) rfl (Nat.le_of_ble_eq_true rfl) rfl dX7_read_55 (fun u H locs h_18 hP hD hS => ?_)
          obtain ⟨te6, n6, m6, nv6, rd6, f6⟩ := u
          have hP : va_P D vwCl [(tx, .inr (7, [.ref tb, .ref tt, .int (nI len), .int (nI (zsQ bf len s8)), .int (if zsA bf len s8 = true then -9 else nI (zsQ bf len s8))])), (tb, .inl (cI, 64, .inl bf)), (tt, .inl (cI, 4, .inl te6)), (r, .inr (3, [.ref ro, .ref rn, .ref rr, .int rt7, .int fr7, .int pr7, .int (nI n6), .int (nI m6)])), (ro, .inl (cI, 4, .inl od7)), (rn, .inl (cI, 5, .inl nv6)), (rr, .inl (cI, 5, .inl rd6)), (a, .inr (6, [.ref b])), (b, .inl (cI, 36, .inl f6))] H := hP
          have hD : va_D A [(tx, .inr (7, [.ref tb, .ref tt, .int (nI len), .int (nI (zsQ bf len s8)), .int (if zsA bf len s8 = true then -9 else nI (zsQ bf len s8))])), (tb, .inl (cI, 64, .inl bf)), (tt, .inl (cI, 4, .inl te6)), (r, .inr (3, [.ref ro, .ref rn, .ref rr, .int rt7, .int fr7, .int pr7, .int (nI n6), .int (nI m6)])), (ro, .inl (cI, 4, .inl od7)), (rn, .inl (cI, 5, .inl nv6)), (rr, .inl (cI, 5, .inl rd6)), (a, .inr (6, [.ref b])), (b, .inl (cI, 36, .inl f6))] := hD
          have h_18 : zsA bf len s8 = true → n6 = zsn (zsS bf s8) ∧ m6 = zsm (zsS bf s8) ∧ rd6 = zsd (zsS bf s8) ∧ f6 = zsf (zsS bf s8) ∧ ∀ i, i < zsn (zsS bf s8) → nv6 i = zsv (zsS bf s8) i := h_18
          have hgo := h_18
          by_cases hA : zsA bf len s8 = true
          · have hlt8 : zsp s8 < len := by omega
            have hnx := zsI_s hv26_1 hA
            have hst := zS_step hv26_3 (by omega) hlt8 hA
            have e_19 : (if zsA bf len s8 = true then -9 else nI (zsQ bf len s8)) = -9 := by rw [if_pos hA]
            have hP : va_P D vwCl [(tx, .inr (7, [.ref tb, .ref tt, .int (nI len), .int (nI (zsQ bf len s8)), .int (-9)])), (tb, .inl (cI, 64, .inl bf)), (tt, .inl (cI, 4, .inl te6)), (r, .inr (3, [.ref ro, .ref rn, .ref rr, .int rt7, .int fr7, .int pr7, .int (nI n6), .int (nI m6)])), (ro, .inl (cI, 4, .inl od7)), (rn, .inl (cI, 5, .inl nv6)), (rr, .inl (cI, 5, .inl rd6)), (a, .inr (6, [.ref b])), (b, .inl (cI, 36, .inl f6))] H := Eq.subst (motive := fun zz_ => va_P D vwCl [(tx, .inr (7, [.ref tb, .ref tt, .int (nI len), .int (nI (zsQ bf len s8)), .int zz_])), (tb, .inl (cI, 64, .inl bf)), (tt, .inl (cI, 4, .inl te6)), (r, .inr (3, [.ref ro, .ref rn, .ref rr, .int rt7, .int fr7, .int pr7, .int (nI n6), .int (nI m6)])), (ro, .inl (cI, 4, .inl od7)), (rn, .inl (cI, 5, .inl nv6)), (rr, .inl (cI, 5, .inl rd6)), (a, .inr (6, [.ref b])), (b, .inl (cI, 36, .inl f6))] H) e_19 hP
            have hD : va_D A [(tx, .inr (7, [.ref tb, .ref tt, .int (nI len), .int (nI (zsQ bf len s8)), .int (-9)])), (tb, .inl (cI, 64, .inl bf)), (tt, .inl (cI, 4, .inl te6)), (r, .inr (3, [.ref ro, .ref rn, .ref rr, .int rt7, .int fr7, .int pr7, .int (nI n6), .int (nI m6)])), (ro, .inl (cI, 4, .inl od7)), (rn, .inl (cI, 5, .inl nv6)), (rr, .inl (cI, 5, .inl rd6)), (a, .inr (6, [.ref b])), (b, .inl (cI, 36, .inl f6))] := zD_of hD rfl
            have e_20 : nI (zsQ bf len s8) = nI (zsp (zsS bf s8)) := by rw [zsS_p hA]
            have hP : va_P D vwCl [(tx, .inr (7, [.ref tb, .ref tt, .int (nI len), .int (nI (zsp (zsS bf s8))), .int (-9)])), (tb, .inl (cI, 64, .inl bf)), (tt, .inl (cI, 4, .inl te6)), (r, .inr (3, [.ref ro, .ref rn, .ref rr, .int rt7, .int fr7, .int pr7, .int (nI n6), .int (nI m6)])), (ro, .inl (cI, 4, .inl od7)), (rn, .inl (cI, 5, .inl nv6)), (rr, .inl (cI, 5, .inl rd6)), (a, .inr (6, [.ref b])), (b, .inl (cI, 36, .inl f6))] H := Eq.subst (motive := fun zz_ => va_P D vwCl [(tx, .inr (7, [.ref tb, .ref tt, .int (nI len), .int zz_, .int (-9)])), (tb, .inl (cI, 64, .inl bf)), (tt, .inl (cI, 4, .inl te6)), (r, .inr (3, [.ref ro, .ref rn, .ref rr, .int rt7, .int fr7, .int pr7, .int (nI n6), .int (nI m6)])), (ro, .inl (cI, 4, .inl od7)), (rn, .inl (cI, 5, .inl nv6)), (rr, .inl (cI, 5, .inl rd6)), (a, .inr (6, [.ref b])), (b, .inl (cI, 36, .inl f6))] H) e_20 hP
            have hD : va_D A [(tx, .inr (7, [.ref tb, .ref tt, .int (nI len), .int (nI (zsp (zsS bf s8))), .int (-9)])), (tb, .inl (cI, 64, .inl bf)), (tt, .inl (cI, 4, .inl te6)), (r, .inr (3, [.ref ro, .ref rn, .ref rr, .int rt7, .int fr7, .int pr7, .int (nI n6), .int (nI m6)])), (ro, .inl (cI, 4, .inl od7)), (rn, .inl (cI, 5, .inl nv6)), (rr, .inl (cI, 5, .inl rd6)), (a, .inr (6, [.ref b])), (b, .inl (cI, 36, .inl f6))] := zD_of hD rfl
            have e_21 : nI n6 = nI (zsn (zsS bf s8)) := by rw [(hgo hA).1]
            have hP : va_P D vwCl [(tx, .inr (7, [.ref tb, .ref tt, .int (nI len), .int (nI (zsp (zsS bf s8))), .int (-9)])), (tb, .inl (cI, 64, .inl bf)), (tt, .inl (cI, 4, .inl te6)), (r, .inr (3, [.ref ro, .ref rn, .ref rr, .int rt7, .int fr7, .int pr7, .int (nI (zsn (zsS bf s8))), .int (nI m6)])), (ro, .inl (cI, 4, .inl od7)), (rn, .inl (cI, 5, .inl nv6)), (rr, .inl (cI, 5, .inl rd6)), (a, .inr (6, [.ref b])), (b, .inl (cI, 36, .inl f6))] H := Eq.subst (motive := fun zz_ => va_P D vwCl [(tx, .inr (7, [.ref tb, .ref tt, .int (nI len), .int (nI (zsp (zsS bf s8))), .int (-9)])), (tb, .inl (cI, 64, .inl bf)), (tt, .inl (cI, 4, .inl te6)), (r, .inr (3, [.ref ro, .ref rn, .ref rr, .int rt7, .int fr7, .int pr7, .int zz_, .int (nI m6)])), (ro, .inl (cI, 4, .inl od7)), (rn, .inl (cI, 5, .inl nv6)), (rr, .inl (cI, 5, .inl rd6)), (a, .inr (6, [.ref b])), (b, .inl (cI, 36, .inl f6))] H) e_21 hP
            have hD : va_D A [(tx, .inr (7, [.ref tb, .ref tt, .int (nI len), .int (nI (zsp (zsS bf s8))), .int (-9)])), (tb, .inl (cI, 64, .inl bf)), (tt, .inl (cI, 4, .inl te6)), (r, .inr (3, [.ref ro, .ref rn, .ref rr, .int rt7, .int fr7, .int pr7, .int (nI (zsn (zsS bf s8))), .int (nI m6)])), (ro, .inl (cI, 4, .inl od7)), (rn, .inl (cI, 5, .inl nv6)), (rr, .inl (cI, 5, .inl rd6)), (a, .inr (6, [.ref b])), (b, .inl (cI, 36, .inl f6))] := zD_of hD rfl
            have e_22 : nI m6 = nI (zsm (zsS bf s8)) := by rw [(hgo hA).2.1]
            have hP : va_P D vwCl [(tx, .inr (7, [.ref tb, .ref tt, .int (nI len), .int (nI (zsp (zsS bf s8))), .int (-9)])), (tb, .inl (cI, 64, .inl bf)), (tt, .inl (cI, 4, .inl te6)), (r, .inr (3, [.ref ro, .ref rn, .ref rr, .int rt7, .int fr7, .int pr7, .int (nI (zsn (zsS bf s8))), .int (nI (zsm (zsS bf s8)))])), (ro, .inl (cI, 4, .inl od7)), (rn, .inl (cI, 5, .inl nv6)), (rr, .inl (cI, 5, .inl rd6)), (a, .inr (6, [.ref b])), (b, .inl (cI, 36, .inl f6))] H := Eq.subst (motive := fun zz_ => va_P D vwCl [(tx, .inr (7, [.ref tb, .ref tt, .int (nI len), .int (nI (zsp (zsS bf s8))), .int (-9)])), (tb, .inl (cI, 64, .inl bf)), (tt, .inl (cI, 4, .inl te6)), (r, .inr (3, [.ref ro, .ref rn, .ref rr, .int rt7, .int fr7, .int pr7, .int (nI (zsn (zsS bf s8))), .int zz_])), (ro, .inl (cI, 4, .inl od7)), (rn, .inl (cI, 5, .inl nv6)), (rr, .inl (cI, 5, .inl rd6)), (a, .inr (6, [.ref b])), (b, .inl (cI, 36, .inl f6))] H) e_22 hP
            have hD : va_D A [(tx, .inr (7, [.ref tb, .ref tt, .int (nI len), .int (nI (zsp (zsS bf s8))), .int (-9)])), (tb, .inl (cI, 64, .inl bf)), (tt, .inl (cI, 4, .inl te6)), (r, .inr (3, [.ref ro, .ref rn, .ref rr, .int rt7, .int fr7, .int pr7, .int (nI (zsn (zsS bf s8))), .int (nI (zsm (zsS bf s8)))])), (ro, .inl (cI, 4, .inl od7)), (rn, .inl (cI, 5, .inl nv6)), (rr, .inl (cI, 5, .inl rd6)), (a, .inr (6, [.ref b])), (b, .inl (cI, 36, .inl f6))] := zD_of hD rfl
            have e_23 : rd6 = zsd (zsS bf s8) := by exact (hgo hA).2.2.1
            have hP : va_P D vwCl [(tx, .inr (7, [.ref tb, .ref tt, .int (nI len), .int (nI (zsp (zsS bf s8))), .int (-9)])), (tb, .inl (cI, 64, .inl bf)), (tt, .inl (cI, 4, .inl te6)), (r, .inr (3, [.ref ro, .ref rn, .ref rr, .int rt7, .int fr7, .int pr7, .int (nI (zsn (zsS bf s8))), .int (nI (zsm (zsS bf s8)))])), (ro, .inl (cI, 4, .inl od7)), (rn, .inl (cI, 5, .inl nv6)), (rr, .inl (cI, 5, .inl (zsd (zsS bf s8)))), (a, .inr (6, [.ref b])), (b, .inl (cI, 36, .inl f6))] H := Eq.subst (motive := fun zz_ => va_P D vwCl [(tx, .inr (7, [.ref tb, .ref tt, .int (nI len), .int (nI (zsp (zsS bf s8))), .int (-9)])), (tb, .inl (cI, 64, .inl bf)), (tt, .inl (cI, 4, .inl te6)), (r, .inr (3, [.ref ro, .ref rn, .ref rr, .int rt7, .int fr7, .int pr7, .int (nI (zsn (zsS bf s8))), .int (nI (zsm (zsS bf s8)))])), (ro, .inl (cI, 4, .inl od7)), (rn, .inl (cI, 5, .inl nv6)), (rr, .inl (cI, 5, .inl zz_)), (a, .inr (6, [.ref b])), (b, .inl (cI, 36, .inl f6))] H) e_23 hP
            have hD : va_D A [(tx, .inr (7, [.ref tb, .ref tt, .int (nI len), .int (nI (zsp (zsS bf s8))), .int (-9)])), (tb, .inl (cI, 64, .inl bf)), (tt, .inl (cI, 4, .inl te6)), (r, .inr (3, [.ref ro, .ref rn, .ref rr, .int rt7, .int fr7, .int pr7, .int (nI (zsn (zsS bf s8))), .int (nI (zsm (zsS bf s8)))])), (ro, .inl (cI, 4, .inl od7)), (rn, .inl (cI, 5, .inl nv6)), (rr, .inl (cI, 5, .inl (zsd (zsS bf s8)))), (a, .inr (6, [.ref b])), (b, .inl (cI, 36, .inl f6))] := zD_of hD rfl
            have e_24 : f6 = zsf (zsS bf s8) := by exact (hgo hA).2.2.2.1
            have hP : va_P D vwCl [(tx, .inr (7, [.ref tb, .ref tt, .int (nI len), .int (nI (zsp (zsS bf s8))), .int (-9)])), (tb, .inl (cI, 64, .inl bf)), (tt, .inl (cI, 4, .inl te6)), (r, .inr (3, [.ref ro, .ref rn, .ref rr, .int rt7, .int fr7, .int pr7, .int (nI (zsn (zsS bf s8))), .int (nI (zsm (zsS bf s8)))])), (ro, .inl (cI, 4, .inl od7)), (rn, .inl (cI, 5, .inl nv6)), (rr, .inl (cI, 5, .inl (zsd (zsS bf s8)))), (a, .inr (6, [.ref b])), (b, .inl (cI, 36, .inl (zsf (zsS bf s8))))] H := Eq.subst (motive := fun zz_ => va_P D vwCl [(tx, .inr (7, [.ref tb, .ref tt, .int (nI len), .int (nI (zsp (zsS bf s8))), .int (-9)])), (tb, .inl (cI, 64, .inl bf)), (tt, .inl (cI, 4, .inl te6)), (r, .inr (3, [.ref ro, .ref rn, .ref rr, .int rt7, .int fr7, .int pr7, .int (nI (zsn (zsS bf s8))), .int (nI (zsm (zsS bf s8)))])), (ro, .inl (cI, 4, .inl od7)), (rn, .inl (cI, 5, .inl nv6)), (rr, .inl (cI, 5, .inl (zsd (zsS bf s8)))), (a, .inr (6, [.ref b])), (b, .inl (cI, 36, .inl zz_))] H) e_24 hP
            have hD : va_D A [(tx, .inr (7, [.ref tb, .ref tt, .int (nI len), .int (nI (zsp (zsS bf s8))), .int (-9)])), (tb, .inl (cI, 64, .inl bf)), (tt, .inl (cI, 4, .inl te6)), (r, .inr (3, [.ref ro, .ref rn, .ref rr, .int rt7, .int fr7, .int pr7, .int (nI (zsn (zsS bf s8))), .int (nI (zsm (zsS bf s8)))])), (ro, .inl (cI, 4, .inl od7)), (rn, .inl (cI, 5, .inl nv6)), (rr, .inl (cI, 5, .inl (zsd (zsS bf s8)))), (a, .inr (6, [.ref b])), (b, .inl (cI, 36, .inl (zsf (zsS bf s8))))] := zD_of hD rfl
            refine lv_iinc (v := nI (t + 1)) (lv' := [(3, .int (nI (t + 1))), (0, .ref tx), (1, .ref r), (2, .ref a)]) hx hb dX7_read_58 hl (k := 0) rfl (z_inc _ 1) (by decide) rfl (fun ls hl => ?_)
            refine lv_goto (tgt := 26) hx hb dX7_read_61 (by decide) ?_
            have hl : lv_has ls 4 [(3, .int (nI (t + 1))), (0, .ref tx), (1, .ref r), (2, .ref a)] := lv_sub hl [0, 1, 2, 3] rfl
            exact ih_11 (t + 1, zsS bf s8, te6, nv6) _ _ _ (by omega) ⟨hP, hD, hS, hl, (by first | omega | exact hnx.1 | exact Nat.lt_of_le_of_lt hv26_2 hnx.2 | exact hst | exact (hgo hA).2.2.2.2), (by first | omega | exact hnx.1 | exact Nat.lt_of_le_of_lt hv26_2 hnx.2 | exact hst | exact (hgo hA).2.2.2.2), (by first | omega | exact hnx.1 | exact Nat.lt_of_le_of_lt hv26_2 hnx.2 | exact hst | exact (hgo hA).2.2.2.2), (by first | omega | exact hnx.1 | exact Nat.lt_of_le_of_lt hv26_2 hnx.2 | exact hst | exact (hgo hA).2.2.2.2), (by first | omega | exact hnx.1 | exact Nat.lt_of_le_of_lt hv26_2 hnx.2 | exact hst | exact (hgo hA).2.2.2.2)⟩
          · have hlt8 : zsp s8 < len := by omega
            have hSe := zS_end hv26_3 (fun z => hA z.2)
            have hfl : (if zsA bf len s8 = true then -9 else nI (zsQ bf len s8)) = zflt bf len := by
              rw [if_neg hA, zflt_y hlw.1 hlw.2, hSe, zsR, if_pos hlt8]
            have hne : ¬ zflt bf len = -9 := by
              rw [← hfl, if_neg hA]; exact znI9 (by have := hv26_1.1; have := zsQ_lt (bf := bf) (len := len) (s := s8); omega)
            have e_25 : (if zsA bf len s8 = true then -9 else nI (zsQ bf len s8)) = zflt bf len := by exact hfl
            have hP : va_P D vwCl [(tx, .inr (7, [.ref tb, .ref tt, .int (nI len), .int (nI (zsQ bf len s8)), .int (zflt bf len)])), (tb, .inl (cI, 64, .inl bf)), (tt, .inl (cI, 4, .inl te6)), (r, .inr (3, [.ref ro, .ref rn, .ref rr, .int rt7, .int fr7, .int pr7, .int (nI n6), .int (nI m6)])), (ro, .inl (cI, 4, .inl od7)), (rn, .inl (cI, 5, .inl nv6)), (rr, .inl (cI, 5, .inl rd6)), (a, .inr (6, [.ref b])), (b, .inl (cI, 36, .inl f6))] H := Eq.subst (motive := fun zz_ => va_P D vwCl [(tx, .inr (7, [.ref tb, .ref tt, .int (nI len), .int (nI (zsQ bf len s8)), .int zz_])), (tb, .inl (cI, 64, .inl bf)), (tt, .inl (cI, 4, .inl te6)), (r, .inr (3, [.ref ro, .ref rn, .ref rr, .int rt7, .int fr7, .int pr7, .int (nI n6), .int (nI m6)])), (ro, .inl (cI, 4, .inl od7)), (rn, .inl (cI, 5, .inl nv6)), (rr, .inl (cI, 5, .inl rd6)), (a, .inr (6, [.ref b])), (b, .inl (cI, 36, .inl f6))] H) e_25 hP
            have hD : va_D A [(tx, .inr (7, [.ref tb, .ref tt, .int (nI len), .int (nI (zsQ bf len s8)), .int (zflt bf len)])), (tb, .inl (cI, 64, .inl bf)), (tt, .inl (cI, 4, .inl te6)), (r, .inr (3, [.ref ro, .ref rn, .ref rr, .int rt7, .int fr7, .int pr7, .int (nI n6), .int (nI m6)])), (ro, .inl (cI, 4, .inl od7)), (rn, .inl (cI, 5, .inl nv6)), (rr, .inl (cI, 5, .inl rd6)), (a, .inr (6, [.ref b])), (b, .inl (cI, 36, .inl f6))] := zD_of hD rfl
            refine lv_iinc (v := nI (t + 1)) (lv' := [(3, .int (nI (t + 1))), (0, .ref tx), (1, .ref r), (2, .ref a)]) hx hb dX7_read_58 hl (k := 0) rfl (z_inc _ 1) (by decide) rfl (fun ls hl => ?_)
            refine lv_goto (tgt := 26) hx hb dX7_read_61 (by decide) ?_
            refine lv_iload_n hx hb dX7_read_26 rfl (lv_at hl 0 rfl) ?_
            refine lv_bipush (v := nI 64) hx hb dX7_read_27 (by decide) ?_
            refine lv_icmp_ge (tgt := 64) hx hb dX7_read_29 (by decide) (fun c_26 => ?_) (fun c_26 => ?_)
            · have c_26 := zle (i := 64) (j := t + 1) (by decide) (by omega) c_26
              refine lv_aload_n hx hb dX7_read_64 rfl (lv_at hl 1 rfl) ?_
              refine z_get (ci := 7) (v := .int (zflt bf len)) Z zin7 hP 0 rfl rfl 4 (by decide) zm60 rfl rfl dX7_read_65 ?_
              exact z_iret Z (zsQ bf len s8, te6, n6, m6, rt7, fr7, pr7, od7, nv6, rd6, f6) ⟨rfl, (by first | exact fun z => absurd z hne | exact fun _ => (by rw [zgot, hSe]; exact ⟨⟨rfl, rfl, rfl, rfl, hv26_4⟩, hgl⟩))⟩ hP hS dX7_read_68
            · have c_26 := znle (i := 64) (j := t + 1) (by decide) (by omega) c_26
              refine lv_aload_n hx hb dX7_read_32 rfl (lv_at hl 1 rfl) ?_
              refine z_get (ci := 7) (v := .int (zflt bf len)) Z zin7 hP 0 rfl rfl 4 (by decide) zm60 rfl rfl dX7_read_33 ?_
              refine lv_bipush (v := -9) hx hb dX7_read_36 (by decide) ?_
              refine lv_icmp_ne (tgt := 64) hx hb dX7_read_38 (by decide) (fun c_27 => ?_) (fun c_27 => ?_)
              · have c_27 : ¬ ((zflt bf len) = (-9 : Int32)) := c_27
                refine lv_aload_n hx hb dX7_read_64 rfl (lv_at hl 1 rfl) ?_
                refine z_get (ci := 7) (v := .int (zflt bf len)) Z zin7 hP 0 rfl rfl 4 (by decide) zm60 rfl rfl dX7_read_65 ?_
                exact z_iret Z (zsQ bf len s8, te6, n6, m6, rt7, fr7, pr7, od7, nv6, rd6, f6) ⟨rfl, (by first | exact fun z => absurd z hne | exact fun _ => (by rw [zgot, hSe]; exact ⟨⟨rfl, rfl, rfl, rfl, hv26_4⟩, hgl⟩))⟩ hP hS dX7_read_68
              · have c_27 : (zflt bf len) = (-9 : Int32) := c_27
                exact absurd c_27 hne
  · have hfl : (if zlw bf len then zft 1 (zcq (zoL bf len) 7) 7 else nI 0) = zflt bf len := by
      by_cases y : zlw bf len
      · have y2 : ¬ zcq (zoL bf len) 7 = 7 := fun z => hlw ⟨y, z⟩
        rw [if_pos y, zflt_n y y2, zft, if_neg y2]
      · rw [if_neg y, zflt_x y]
    have hne : ¬ zflt bf len = -9 := by
      rw [← hfl]; split
      · intro z; rename_i y; exact hlw ⟨y, zft_9 (by have := zcq_le (zoL bf len) 7; omega) z⟩
      · exact znI9 (by decide)
    have e_28 : (if zlw bf len then zft 1 (zcq (zoL bf len) 7) 7 else nI 0) = zflt bf len := by exact hfl
    have hP : va_P D vwCl [(tx, .inr (7, [.ref tb, .ref tt, .int (nI len), .int (nI (if zlw bf len then 1 + (zcq (zoL bf len) 7) else 0)), .int (zflt bf len)])), (tb, .inl (cI, 64, .inl bf)), (tt, .inl (cI, 4, .inl te7)), (r, .inr (3, [.ref ro, .ref rn, .ref rr, .int rt7, .int fr7, .int pr7, .int (nI 0), .int (nI 0)])), (ro, .inl (cI, 4, .inl od7)), (rn, .inl (cI, 5, .inl nv)), (rr, .inl (cI, 5, .inl (zcl rd 5))), (a, .inr (6, [.ref b])), (b, .inl (cI, 36, .inl (zfg (zcl f 36) 5)))] H := Eq.subst (motive := fun zz_ => va_P D vwCl [(tx, .inr (7, [.ref tb, .ref tt, .int (nI len), .int (nI (if zlw bf len then 1 + (zcq (zoL bf len) 7) else 0)), .int zz_])), (tb, .inl (cI, 64, .inl bf)), (tt, .inl (cI, 4, .inl te7)), (r, .inr (3, [.ref ro, .ref rn, .ref rr, .int rt7, .int fr7, .int pr7, .int (nI 0), .int (nI 0)])), (ro, .inl (cI, 4, .inl od7)), (rn, .inl (cI, 5, .inl nv)), (rr, .inl (cI, 5, .inl (zcl rd 5))), (a, .inr (6, [.ref b])), (b, .inl (cI, 36, .inl (zfg (zcl f 36) 5)))] H) e_28 hP
    have hD : va_D A [(tx, .inr (7, [.ref tb, .ref tt, .int (nI len), .int (nI (if zlw bf len then 1 + (zcq (zoL bf len) 7) else 0)), .int (zflt bf len)])), (tb, .inl (cI, 64, .inl bf)), (tt, .inl (cI, 4, .inl te7)), (r, .inr (3, [.ref ro, .ref rn, .ref rr, .int rt7, .int fr7, .int pr7, .int (nI 0), .int (nI 0)])), (ro, .inl (cI, 4, .inl od7)), (rn, .inl (cI, 5, .inl nv)), (rr, .inl (cI, 5, .inl (zcl rd 5))), (a, .inr (6, [.ref b])), (b, .inl (cI, 36, .inl (zfg (zcl f 36) 5)))] := zD_of hD rfl
    refine lv_iconst (v := nI 0) hx hb dX7_read_24 (by decide) ?_
    refine lv_istore_n (lv' := [(3, .int (nI 0)), (0, .ref tx), (1, .ref r), (2, .ref a)]) hx hb dX7_read_25 rfl hl (by decide) rfl (fun ls hl => ?_)
    refine lv_iload_n hx hb dX7_read_26 rfl (lv_at hl 0 rfl) ?_
    refine lv_bipush (v := nI 64) hx hb dX7_read_27 (by decide) ?_
    refine lv_icmp_ge (tgt := 64) hx hb dX7_read_29 (by decide) (fun c_29 => ?_) (fun c_29 => ?_)
    · exact absurd c_29 (by decide)
    · have c_29 := znle (i := 64) (j := 0) (by decide) (by decide) c_29
      refine lv_aload_n hx hb dX7_read_32 rfl (lv_at hl 1 rfl) ?_
      refine z_get (ci := 7) (v := .int (zflt bf len)) Z zin7 hP 0 rfl rfl 4 (by decide) zm60 rfl rfl dX7_read_33 ?_
      refine lv_bipush (v := -9) hx hb dX7_read_36 (by decide) ?_
      refine lv_icmp_ne (tgt := 64) hx hb dX7_read_38 (by decide) (fun c_30 => ?_) (fun c_30 => ?_)
      · have c_30 : ¬ ((zflt bf len) = (-9 : Int32)) := c_30
        refine lv_aload_n hx hb dX7_read_64 rfl (lv_at hl 1 rfl) ?_
        refine z_get (ci := 7) (v := .int (zflt bf len)) Z zin7 hP 0 rfl rfl 4 (by decide) zm60 rfl rfl dX7_read_65 ?_
        exact z_iret Z (if zlw bf len then 1 + (zcq (zoL bf len) 7) else 0, te7, 0, 0, rt7, fr7, pr7, od7, nv, zcl rd 5, zfg (zcl f 36) 5) ⟨rfl, (by first | exact fun z => absurd z hne | exact fun _ => (by rw [zgot, hSe]; exact ⟨⟨rfl, rfl, rfl, rfl, hv26_4⟩, hgl⟩))⟩ hP hS dX7_read_68
      · have c_30 : (zflt bf len) = (-9 : Int32) := c_30
        exact absurd c_30 hne
