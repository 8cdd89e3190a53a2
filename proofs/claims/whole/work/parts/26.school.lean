theorem zinhB {x : Int32} {n : Nat} (h1 : 1 ≤ n) (hn : n < 2147483648) : (¬ x.toInt64 < 0 ∧ ¬ (nI n - nI 1).toInt64 < x.toInt64) ↔ zhas n x := by
  have h0 : (0 : Int64) = (nI 0).toInt64 := rfl
  rw [h0, zwide_lt, zwide_lt, pk_sub h1]
  constructor
  · intro h
    refine ⟨h.1, fun q => ?_⟩
    have h3 := h.2
    rw [Int32.lt_iff_toInt_lt, nI_toInt (by omega)] at h3
    rw [Int32.le_iff_toInt_le, nI_toInt (by omega)] at q
    omega
  · intro h
    obtain ⟨p, hp, rfl⟩ := zhas_of (by omega) h
    exact ⟨nI_pos (by omega), nI_nlt (by omega) (by omega)⟩
theorem zp10b {d : Nat} (h : d ≤ 8) : 10 ^ d ≤ 100000000 ∧ 0 < 10 ^ d := ⟨(Nat.pow_le_pow_right (show 0 < 10 by decide) h : 10 ^ d ≤ 10 ^ 8), Nat.pow_pos (by decide)⟩
theorem zrw_ok {w d : Nat} : ∀ {c : Nat}, (∀ i, i < c → zdi w d i < 4) → zrw w d c = true
  | 0, _ => rfl
  | c + 1, h => by
    show (zrw w d c && decide (zdi w d c < 4)) = true
    rw [zrw_ok (fun i hi => h i (by omega)), decide_eq_true (h c (by omega))]; rfl
theorem zsco_y {f : Nat → Int32} {fr sc : Int32} {p d w : Nat} (hd : d ≤ 8) (hw : w < 10 ^ d) (h : ∀ i, i < d → zdi w d i < 4) : zsco f fr p sc d (nI w) = zss f p fr sc d w d := by
  have hp := zp10b hd
  unfold zsco; rw [if_pos ((zirow_nat (by omega) hd).mpr ⟨hw, zrw_ok h⟩), nI_clamp (by omega)]
theorem zsco_n {f : Nat → Int32} {fr sc : Int32} {p d w i : Nat} (hd : d ≤ 8) (hw : w < 10 ^ d) (hi : i < d) (h : ¬ zdi w d i < 4) : zsco f fr p sc d (nI w) = -2 := by
  have hp := zp10b hd
  unfold zsco; rw [if_neg (fun q => by have e := ((zirow_nat (by omega) hd).mp q).2; rw [zrw_false h hi] at e; exact absurd e (by decide))]
theorem zsco_x {f : Nat → Int32} {fr sc x : Int32} {p d : Nat} (h : ¬ zhas (10 ^ d) x) : zsco f fr p sc d x = -2 := by
  unfold zsco; rw [if_neg (fun q => h ⟨q.1, fun r => absurd q.2.1 (by rw [Int32.not_lt]; exact r)⟩)]
theorem zscR_i {f t : Nat → Int32} {p : Nat} {sc : Int32} {d w : Nat} (hp : p < 5) (h : ∀ y, y < 4 → t y = f (p * 4 + y)) : zscR f p sc d w 0 t := by
  intro j hj
  rw [h j hj]
  show _ = zfg f 5 (p * 4 + j)
  unfold zfg; rw [if_neg (by omega)]
theorem zcpr_s {t F : Nat → Int32} {i : Nat} {v : Int32} (h : ∀ y, y < i → t y = F y) (hv : v = F i) : ∀ y, y < i + 1 → upd t i v y = F y := by
  intro y hy
  by_cases q : y = i
  · subst q; rw [pk_us, hv]
  · rw [pk_un q]; exact h y (by omega)
/-- a day's row, as it is laid -/
def zscT (c k y : Nat) (t : Nat → Int32) : Nat → Int32 := if c = 2 then zlay t k y else if c = 0 then zml t 0 k else t
theorem zscT_0 {c k : Nat} {t : Nat → Int32} (h : c = 0) : zml t 0 k = zscT c k 0 t := by subst h; rfl
theorem zscT_1 {c k : Nat} {t : Nat → Int32} (h : ¬ c = 0) : t = zscT c k 0 t := by
  unfold zscT
  by_cases q : c = 2
  · rw [if_pos q]; exact (zlay_0 t k).symm
  · rw [if_neg q, if_neg h]
theorem zscT_y {c k y : Nat} {t : Nat → Int32} (h : c = 2) (hk : y = k) : upd (zscT c k y t) y 10 = zscT c k (y + 1) t := by
  unfold zscT; rw [if_pos h, if_pos h]; exact zlay_y t hk
theorem zscT_n {c k y : Nat} {t : Nat → Int32} (h : c = 2) (hk : ¬ y = k) : upd (zscT c k y t) y 0 = zscT c k (y + 1) t := by
  unfold zscT; rw [if_pos h, if_pos h]; exact zlay_n t hk
theorem zscR_T {f t : Nat → Int32} {p c d w i y : Nat} (hc : c ≤ 2) (h : ¬ c = 2 ∨ y = 4) (hk : zdi w d i < 4) (hv : zpv1 p (zsg f p (nI c) d w i)) (ht : zscR f p (nI c) d w i t) : zscR f p (nI c) d w (i + 1) (zscT c (zdi w d i) y t) := by
  unfold zscT
  by_cases h2 : c = 2
  · rw [if_pos h2, h.resolve_left (fun z => z h2)]; exact zscR_2 (by rw [h2]; rfl) hk
  · rw [if_neg h2]
    by_cases h0 : c = 0
    · rw [if_pos h0]; exact zscR_0 (by rw [h0]; rfl) hk hv ht
    · rw [if_neg h0]; exact zscR_1 (fun z => h0 (zeq (j := 0) (by omega) (by decide) z)) (fun z => h2 (zeq (j := 2) (by omega) (by decide) z)) ht
theorem dX9_school_0 : decode cX9_school 0 = .ok (.aload_n 0, 1) := by decide +kernel
theorem dX9_school_1 : decode cX9_school 1 = .ok (.iconst 0, 1) := by decide +kernel
theorem dX9_school_2 : decode cX9_school 2 = .ok (.putfield 62, 3) := by decide +kernel
theorem dX9_school_5 : decode cX9_school 5 = .ok (.aload_n 0, 1) := by decide +kernel
theorem dX9_school_6 : decode cX9_school 6 = .ok (.iload_n 1, 1) := by decide +kernel
theorem dX9_school_7 : decode cX9_school 7 = .ok (.invokevirtual 147, 3) := by decide +kernel
theorem dX9_school_10 : decode cX9_school 10 = .ok (.ifCond .eq 5, 3) := by decide +kernel
theorem dX9_school_13 : decode cX9_school 13 = .ok (.iconst (-1), 1) := by decide +kernel
theorem dX9_school_14 : decode cX9_school 14 = .ok (.ireturn, 1) := by decide +kernel
theorem dX9_school_15 : decode cX9_school 15 = .ok (.iload_n 2, 1) := by decide +kernel
theorem dX9_school_16 : decode cX9_school 16 = .ok (.i2l, 1) := by decide +kernel
theorem dX9_school_17 : decode cX9_school 17 = .ok (.lconst 0, 1) := by decide +kernel
theorem dX9_school_18 : decode cX9_school 18 = .ok (.ldc2_w 217, 3) := by decide +kernel
theorem dX9_school_21 : decode cX9_school 21 = .ok (.invokestatic 69, 3) := by decide +kernel
theorem dX9_school_24 : decode cX9_school 24 = .ok (.ifCond .eq 32, 3) := by decide +kernel
theorem dX9_school_27 : decode cX9_school 27 = .ok (.iload_n 3, 1) := by decide +kernel
theorem dX9_school_28 : decode cX9_school 28 = .ok (.i2l, 1) := by decide +kernel
theorem dX9_school_29 : decode cX9_school 29 = .ok (.lconst 1, 1) := by decide +kernel
theorem dX9_school_30 : decode cX9_school 30 = .ok (.ldc2_w 219, 3) := by decide +kernel
theorem dX9_school_33 : decode cX9_school 33 = .ok (.invokestatic 69, 3) := by decide +kernel
theorem dX9_school_36 : decode cX9_school 36 = .ok (.ifCond .eq 20, 3) := by decide +kernel
theorem dX9_school_39 : decode cX9_school 39 = .ok (.iload 4, 2) := by decide +kernel
theorem dX9_school_41 : decode cX9_school 41 = .ok (.i2l, 1) := by decide +kernel
theorem dX9_school_42 : decode cX9_school 42 = .ok (.lconst 0, 1) := by decide +kernel
theorem dX9_school_43 : decode cX9_school 43 = .ok (.iload_n 3, 1) := by decide +kernel
theorem dX9_school_44 : decode cX9_school 44 = .ok (.invokestatic 190, 3) := by decide +kernel
theorem dX9_school_47 : decode cX9_school 47 = .ok (.iconst 1, 1) := by decide +kernel
theorem dX9_school_48 : decode cX9_school 48 = .ok (.isub, 1) := by decide +kernel
theorem dX9_school_49 : decode cX9_school 49 = .ok (.i2l, 1) := by decide +kernel
theorem dX9_school_50 : decode cX9_school 50 = .ok (.invokestatic 69, 3) := by decide +kernel
theorem dX9_school_53 : decode cX9_school 53 = .ok (.ifCond .ne 6, 3) := by decide +kernel
theorem dX9_school_56 : decode cX9_school 56 = .ok (.bipush (-2), 2) := by decide +kernel
theorem dX9_school_58 : decode cX9_school 58 = .ok (.ireturn, 1) := by decide +kernel
theorem dX9_school_59 : decode cX9_school 59 = .ok (.iconst 0, 1) := by decide +kernel
theorem dX9_school_60 : decode cX9_school 60 = .ok (.istore 5, 2) := by decide +kernel
theorem dX9_school_62 : decode cX9_school 62 = .ok (.iload 5, 2) := by decide +kernel
theorem dX9_school_64 : decode cX9_school 64 = .ok (.iconst 4, 1) := by decide +kernel
theorem dX9_school_65 : decode cX9_school 65 = .ok (.if_icmp .ge 28, 3) := by decide +kernel
theorem dX9_school_68 : decode cX9_school 68 = .ok (.aload_n 0, 1) := by decide +kernel
theorem dX9_school_69 : decode cX9_school 69 = .ok (.getfield 53, 3) := by decide +kernel
theorem dX9_school_72 : decode cX9_school 72 = .ok (.iload 5, 2) := by decide +kernel
theorem dX9_school_74 : decode cX9_school 74 = .ok (.aload_n 0, 1) := by decide +kernel
theorem dX9_school_75 : decode cX9_school 75 = .ok (.getfield 34, 3) := by decide +kernel
theorem dX9_school_78 : decode cX9_school 78 = .ok (.bipush 7, 2) := by decide +kernel
theorem dX9_school_80 : decode cX9_school 80 = .ok (.iload_n 1, 1) := by decide +kernel
theorem dX9_school_81 : decode cX9_school 81 = .ok (.imul, 1) := by decide +kernel
theorem dX9_school_82 : decode cX9_school 82 = .ok (.iload 5, 2) := by decide +kernel
theorem dX9_school_84 : decode cX9_school 84 = .ok (.iadd, 1) := by decide +kernel
theorem dX9_school_85 : decode cX9_school 85 = .ok (.iaload, 1) := by decide +kernel
theorem dX9_school_86 : decode cX9_school 86 = .ok (.iastore, 1) := by decide +kernel
theorem dX9_school_87 : decode cX9_school 87 = .ok (.iinc 5 1, 3) := by decide +kernel
theorem dX9_school_90 : decode cX9_school 90 = .ok (.goto (-28), 3) := by decide +kernel
theorem dX9_school_93 : decode cX9_school 93 = .ok (.iconst 0, 1) := by decide +kernel
theorem dX9_school_94 : decode cX9_school 94 = .ok (.istore 5, 2) := by decide +kernel
theorem dX9_school_96 : decode cX9_school 96 = .ok (.iload_n 3, 1) := by decide +kernel
theorem dX9_school_97 : decode cX9_school 97 = .ok (.iconst 1, 1) := by decide +kernel
theorem dX9_school_98 : decode cX9_school 98 = .ok (.isub, 1) := by decide +kernel
theorem dX9_school_99 : decode cX9_school 99 = .ok (.istore 6, 2) := by decide +kernel
theorem dX9_school_101 : decode cX9_school 101 = .ok (.iload 6, 2) := by decide +kernel
theorem dX9_school_103 : decode cX9_school 103 = .ok (.ifCond .lt 112, 3) := by decide +kernel
theorem dX9_school_106 : decode cX9_school 106 = .ok (.iload 4, 2) := by decide +kernel
theorem dX9_school_108 : decode cX9_school 108 = .ok (.iload 6, 2) := by decide +kernel
theorem dX9_school_110 : decode cX9_school 110 = .ok (.invokestatic 190, 3) := by decide +kernel
theorem dX9_school_113 : decode cX9_school 113 = .ok (.idiv, 1) := by decide +kernel
theorem dX9_school_114 : decode cX9_school 114 = .ok (.bipush 10, 2) := by decide +kernel
theorem dX9_school_116 : decode cX9_school 116 = .ok (.irem, 1) := by decide +kernel
theorem dX9_school_117 : decode cX9_school 117 = .ok (.istore 7, 2) := by decide +kernel
theorem dX9_school_119 : decode cX9_school 119 = .ok (.iload 7, 2) := by decide +kernel
theorem dX9_school_121 : decode cX9_school 121 = .ok (.invokestatic 164, 3) := by decide +kernel
theorem dX9_school_124 : decode cX9_school 124 = .ok (.ifCond .eq 6, 3) := by decide +kernel
theorem dX9_school_127 : decode cX9_school 127 = .ok (.bipush (-2), 2) := by decide +kernel
theorem dX9_school_129 : decode cX9_school 129 = .ok (.ireturn, 1) := by decide +kernel
theorem dX9_school_130 : decode cX9_school 130 = .ok (.iload 5, 2) := by decide +kernel
theorem dX9_school_132 : decode cX9_school 132 = .ok (.aload_n 0, 1) := by decide +kernel
theorem dX9_school_133 : decode cX9_school 133 = .ok (.getfield 53, 3) := by decide +kernel
theorem dX9_school_136 : decode cX9_school 136 = .ok (.iload 7, 2) := by decide +kernel
theorem dX9_school_138 : decode cX9_school 138 = .ok (.iaload, 1) := by decide +kernel
theorem dX9_school_139 : decode cX9_school 139 = .ok (.iload 7, 2) := by decide +kernel
theorem dX9_school_141 : decode cX9_school 141 = .ok (.bipush (-9), 2) := by decide +kernel
theorem dX9_school_143 : decode cX9_school 143 = .ok (.bipush (-9), 2) := by decide +kernel
theorem dX9_school_145 : decode cX9_school 145 = .ok (.aload_n 0, 1) := by decide +kernel
theorem dX9_school_146 : decode cX9_school 146 = .ok (.getfield 128, 3) := by decide +kernel
theorem dX9_school_149 : decode cX9_school 149 = .ok (.invokestatic 152, 3) := by decide +kernel
theorem dX9_school_152 : decode cX9_school 152 = .ok (.iadd, 1) := by decide +kernel
theorem dX9_school_153 : decode cX9_school 153 = .ok (.istore 5, 2) := by decide +kernel
theorem dX9_school_155 : decode cX9_school 155 = .ok (.iload_n 2, 1) := by decide +kernel
theorem dX9_school_156 : decode cX9_school 156 = .ok (.ifCond .ne 13, 3) := by decide +kernel
theorem dX9_school_159 : decode cX9_school 159 = .ok (.aload_n 0, 1) := by decide +kernel
theorem dX9_school_160 : decode cX9_school 160 = .ok (.getfield 53, 3) := by decide +kernel
theorem dX9_school_163 : decode cX9_school 163 = .ok (.iconst 0, 1) := by decide +kernel
theorem dX9_school_164 : decode cX9_school 164 = .ok (.iload 7, 2) := by decide +kernel
theorem dX9_school_166 : decode cX9_school 166 = .ok (.invokestatic 160, 3) := by decide +kernel
theorem dX9_school_169 : decode cX9_school 169 = .ok (.iconst 0, 1) := by decide +kernel
theorem dX9_school_170 : decode cX9_school 170 = .ok (.istore 8, 2) := by decide +kernel
theorem dX9_school_172 : decode cX9_school 172 = .ok (.iload 8, 2) := by decide +kernel
theorem dX9_school_174 : decode cX9_school 174 = .ok (.iconst 4, 1) := by decide +kernel
theorem dX9_school_175 : decode cX9_school 175 = .ok (.if_icmp .ge 34, 3) := by decide +kernel
theorem dX9_school_178 : decode cX9_school 178 = .ok (.iload_n 2, 1) := by decide +kernel
theorem dX9_school_179 : decode cX9_school 179 = .ok (.iconst 2, 1) := by decide +kernel
theorem dX9_school_180 : decode cX9_school 180 = .ok (.if_icmp .ne 29, 3) := by decide +kernel
theorem dX9_school_183 : decode cX9_school 183 = .ok (.aload_n 0, 1) := by decide +kernel
theorem dX9_school_184 : decode cX9_school 184 = .ok (.getfield 53, 3) := by decide +kernel
theorem dX9_school_187 : decode cX9_school 187 = .ok (.iload 8, 2) := by decide +kernel
theorem dX9_school_189 : decode cX9_school 189 = .ok (.iload 8, 2) := by decide +kernel
theorem dX9_school_191 : decode cX9_school 191 = .ok (.iload 7, 2) := by decide +kernel
theorem dX9_school_193 : decode cX9_school 193 = .ok (.if_icmp .ne 8, 3) := by decide +kernel
theorem dX9_school_196 : decode cX9_school 196 = .ok (.bipush 10, 2) := by decide +kernel
theorem dX9_school_198 : decode cX9_school 198 = .ok (.goto 4, 3) := by decide +kernel
theorem dX9_school_201 : decode cX9_school 201 = .ok (.iconst 0, 1) := by decide +kernel
theorem dX9_school_202 : decode cX9_school 202 = .ok (.iastore, 1) := by decide +kernel
theorem dX9_school_203 : decode cX9_school 203 = .ok (.iinc 8 1, 3) := by decide +kernel
theorem dX9_school_206 : decode cX9_school 206 = .ok (.goto (-34), 3) := by decide +kernel
theorem dX9_school_209 : decode cX9_school 209 = .ok (.iinc 6 (-1), 3) := by decide +kernel
theorem dX9_school_212 : decode cX9_school 212 = .ok (.goto (-111), 3) := by decide +kernel
theorem dX9_school_215 : decode cX9_school 215 = .ok (.iload 5, 2) := by decide +kernel
theorem dX9_school_217 : decode cX9_school 217 = .ok (.ireturn, 1) := by decide +kernel
theorem zd_X9_school : yX9_school.cls ≠ "java/lang/invoke/MethodHandle" ∧ yX9_school.cls ≠ "java/lang/invoke/VarHandle" ∧ (parseMethodDescriptor yX9_school.desc).map (fun d => d.parameters.length) = some 4 := by decide +kernel
set_option maxHeartbeats 4000000 in
set_option maxRecDepth 100000 in
theorem zc_X9_school (l : Launch) (D : va_G) (cI cZ : ClassId) (M : Nat) (th : Int32) (mtx : Nat) (len : Nat) (pl : Nat) (rt : Int32) (fr : Int32) (pr : Int32) (mod_ : Nat) (n : Nat) (mne : Nat) (mro : Nat) (m : Nat) (rrt : Int32) (rfr : Int32) (rpr : Int32) (mrod : Nat) (rn9 : Nat) (mrne : Nat) (mrro : Nat) (rm9 : Nat) (mrp : Nat) (mpg : Nat) (mbk : Nat) (ac : Nat) (mke : Nat) (mik : Nat) (cr : Nat) (mrw : Nat) (mrd : Nat) (sd : Int64) (mtr : Nat) (mwo : Nat) (mnx : Nat) (jr : Int32) (g : Nat → Int32) (f : Nat → Int32) (t : Nat → Int32) (x1 : Int32) (x2 : Int32) (x3 : Int32) (x4 : Int32) (hn : n ≤ 5) (hpg : zpr n f g) (hpv : zpv n f) : zI l yX9_school cX9_school 9 .int 2 46 D cI cZ [.ref M, .int x1, .int x2, .int x3, .int x4] [(M, .inr (9, [.int th, .ref mtx, .int (nI len), .int (nI pl), .int rt, .int fr, .int pr, .ref mod_, .int (nI n), .ref mne, .ref mro, .int (nI m), .int rrt, .int rfr, .int rpr, .ref mrod, .int (nI rn9), .ref mrne, .ref mrro, .int (nI rm9), .ref mrp, .ref mpg, .ref mbk, .int (nI ac), .ref mke, .ref mik, .int (nI cr), .ref mrw, .ref mrd, .long sd, .ref mtr, .ref mwo, .ref mnx, .int jr])), (mpg, .inl (cI, 36, .inl g)), (mtr, .inl (cI, 36, .inl t))] (fun (r : Int32) (u : (Nat → Int32)) => r = zPa n x1 (fun p => zRa 0 2 x2 (fun c => zRa 1 8 x3 (fun d => zsco f fr p (nI c) d x4) (-2)) (-2)) (-1)) (fun (u : (Nat → Int32)) => [(M, .inr (9, [.int (nI 0), .ref mtx, .int (nI len), .int (nI pl), .int rt, .int fr, .int pr, .ref mod_, .int (nI n), .ref mne, .ref mro, .int (nI m), .int rrt, .int rfr, .int rpr, .ref mrod, .int (nI rn9), .ref mrne, .ref mrro, .int (nI rm9), .ref mrp, .ref mpg, .ref mbk, .int (nI ac), .ref mke, .ref mik, .int (nI cr), .ref mrw, .ref mrd, .long sd, .ref mtr, .ref mwo, .ref mnx, .int jr])), (mpg, .inl (cI, 36, .inl g)), (mtr, .inl (cI, 36, .inl u))]) := by
  refine zI_of (by decide) (Nat.le_of_ble_eq_true rfl) ?_
  intro pP eE sS mM aA bB mT cC A ls Z hP hD hS hl
  have hx := Z.1
  have hb := Z.2.1
  have hown := Z.2.2.2.2.2.1
  have hts := Z.2.2.2.2.1
  have Z : zAt pP sS mM aA mT cC D cI cZ A "SurpriseTaxModel" cX9_school 9 (some .int) := Z
  have hl : lv_has ls 9 [(0, .ref M), (1, .int x1), (2, .int x2), (3, .int x3), (4, .int x4)] := hl
  obtain ⟨H, hH⟩ : ∃ H, H = sS.heap := ⟨_, rfl⟩
  have hP : va_P D vwCl [(M, .inr (9, [.int th, .ref mtx, .int (nI len), .int (nI pl), .int rt, .int fr, .int pr, .ref mod_, .int (nI n), .ref mne, .ref mro, .int (nI m), .int rrt, .int rfr, .int rpr, .ref mrod, .int (nI rn9), .ref mrne, .ref mrro, .int (nI rm9), .ref mrp, .ref mpg, .ref mbk, .int (nI ac), .ref mke, .ref mik, .int (nI cr), .ref mrw, .ref mrd, .long sd, .ref mtr, .ref mwo, .ref mnx, .int jr])), (mpg, .inl (cI, 36, .inl g)), (mtr, .inl (cI, 36, .inl t))] H := by rw [hH]; exact hP
  have hS : va_S A sS.heap H [] := by rw [hH]; exact hS
  rw [← hH]
  clear hH
  obtain ⟨locs, hlo⟩ : ∃ q : List Loc, q = [] := ⟨_, rfl⟩
  rw [← hlo] at hS ⊢
  clear hlo
  refine lv_aload_n hx hb dX9_school_0 rfl (lv_at hl 0 rfl) ?_
  refine lv_iconst (v := nI 0) hx hb dX9_school_1 (by decide) ?_
  refine z_put (ci := 9) (v := .int (nI 0)) Z zin9 tyX9 tyX9_ok nmX9 hP hD hS 0 rfl rfl 0 (by decide) zm677 rfl rfl rfl rfl (Nat.le_of_ble_eq_true rfl) dX9_school_2 (fun H locs hP hD hS => ?_)
  have hP : va_P D vwCl [(M, .inr (9, [.int (nI 0), .ref mtx, .int (nI len), .int (nI pl), .int rt, .int fr, .int pr, .ref mod_, .int (nI n), .ref mne, .ref mro, .int (nI m), .int rrt, .int rfr, .int rpr, .ref mrod, .int (nI rn9), .ref mrne, .ref mrro, .int (nI rm9), .ref mrp, .ref mpg, .ref mbk, .int (nI ac), .ref mke, .ref mik, .int (nI cr), .ref mrw, .ref mrd, .long sd, .ref mtr, .ref mwo, .ref mnx, .int jr])), (mpg, .inl (cI, 36, .inl g)), (mtr, .inl (cI, 36, .inl t))] H := hP
  have hD : va_D A [(M, .inr (9, [.int (nI 0), .ref mtx, .int (nI len), .int (nI pl), .int rt, .int fr, .int pr, .ref mod_, .int (nI n), .ref mne, .ref mro, .int (nI m), .int rrt, .int rfr, .int rpr, .ref mrod, .int (nI rn9), .ref mrne, .ref mrro, .int (nI rm9), .ref mrp, .ref mpg, .ref mbk, .int (nI ac), .ref mke, .ref mik, .int (nI cr), .ref mrw, .ref mrd, .long sd, .ref mtr, .ref mwo, .ref mnx, .int jr])), (mpg, .inl (cI, 36, .inl g)), (mtr, .inl (cI, 36, .inl t))] := hD
  refine lv_aload_n hx hb dX9_school_5 rfl (lv_at hl 0 rfl) ?_
  refine lv_iload_n hx hb dX9_school_6 rfl (lv_at hl 1 rfl) ?_
  refine z_callVi (As := [.int x1]) (rest := []) (ci := 9) (k0 := 0) Z hP hD hS hl.1 (zc_X9_noOne l D cI cZ M (nI 0) mtx len pl rt fr pr mod_ n mne mro m rrt rfr rpr mrod rn9 mrne mrro rm9 mrp mpg mbk ac mke mik cr mrw mrd sd mtr mwo mnx jr x1 (by omega)) zm797 zm798 zm19 zm39 zm799 ⟨rfl, zd_X9_noOne⟩ ⟨Nat.le_of_ble_eq_true rfl, Nat.le_of_ble_eq_true rfl⟩ ⟨Nat.zero_le _, Nat.zero_le _⟩ [0] rfl (by decide) rfl rfl rfl (fun _ => rfl) rfl (Nat.le_of_ble_eq_true rfl) rfl dX9_school_7 (fun r_1 u H locs h_2 hP hD hS => ?_)
  have hP : va_P D vwCl [(M, .inr (9, [.int (nI 0), .ref mtx, .int (nI len), .int (nI pl), .int rt, .int fr, .int pr, .ref mod_, .int (nI n), .ref mne, .ref mro, .int (nI m), .int rrt, .int rfr, .int rpr, .ref mrod, .int (nI rn9), .ref mrne, .ref mrro, .int (nI rm9), .ref mrp, .ref mpg, .ref mbk, .int (nI ac), .ref mke, .ref mik, .int (nI cr), .ref mrw, .ref mrd, .long sd, .ref mtr, .ref mwo, .ref mnx, .int jr])), (mpg, .inl (cI, 36, .inl g)), (mtr, .inl (cI, 36, .inl t))] H := hP
  have hD : va_D A [(M, .inr (9, [.int (nI 0), .ref mtx, .int (nI len), .int (nI pl), .int rt, .int fr, .int pr, .ref mod_, .int (nI n), .ref mne, .ref mro, .int (nI m), .int rrt, .int rfr, .int rpr, .ref mrod, .int (nI rn9), .ref mrne, .ref mrro, .int (nI rm9), .ref mrp, .ref mpg, .ref mbk, .int (nI ac), .ref mke, .ref mik, .int (nI cr), .ref mrw, .ref mrd, .long sd, .ref mtr, .ref mwo, .ref mnx, .int jr])), (mpg, .inl (cI, 36, .inl g)), (mtr, .inl (cI, 36, .inl t))] := hD
  have h_2 : r_1 = if ¬ zhas n x1 then 1 else 0 := h_2
  subst h_2
  refine lv_if_eq (tgt := 15) hx hb dX9_school_10 (by decide) (fun c_3 => ?_) (fun c_3 => ?_)
  · have c_3 := zb0 c_3
    have hzz := Classical.not_not.mp c_3
    obtain ⟨p, hp, rfl⟩ := zhas_of (by omega) hzz
    refine lv_iload_n hx hb dX9_school_15 rfl (lv_at hl 2 rfl) ?_
    refine lv_i2l (v := x2.toInt64) hx hb dX9_school_16 rfl ?_
    refine lv_lconst (v := 0) hx hb dX9_school_17 (by decide) ?_
    refine lv_ldc2 (v := 2) hx hb hown (hts _ zm915) dX9_school_18 ?_
    refine z_callSi (As := [.long x2.toInt64, .long 0, .long 2]) (rest := []) Z hP hD hS hl.1 (zc_X9_in l D cI cZ x2.toInt64 0 2 ) zm750 zm751 zm39 zm752 zd_X9_in ⟨Nat.le_of_ble_eq_true rfl, Nat.le_of_ble_eq_true rfl⟩ ⟨Nat.zero_le _, Nat.zero_le _⟩ [] rfl (by decide) (fun _ => rfl) rfl (Nat.le_of_ble_eq_true rfl) rfl dX9_school_21 (fun r_4 u H locs h_5 hP hD hS => ?_)
    have hP : va_P D vwCl [(M, .inr (9, [.int (nI 0), .ref mtx, .int (nI len), .int (nI pl), .int rt, .int fr, .int pr, .ref mod_, .int (nI n), .ref mne, .ref mro, .int (nI m), .int rrt, .int rfr, .int rpr, .ref mrod, .int (nI rn9), .ref mrne, .ref mrro, .int (nI rm9), .ref mrp, .ref mpg, .ref mbk, .int (nI ac), .ref mke, .ref mik, .int (nI cr), .ref mrw, .ref mrd, .long sd, .ref mtr, .ref mwo, .ref mnx, .int jr])), (mpg, .inl (cI, 36, .inl g)), (mtr, .inl (cI, 36, .inl t))] H := hP
    have hD : va_D A [(M, .inr (9, [.int (nI 0), .ref mtx, .int (nI len), .int (nI pl), .int rt, .int fr, .int pr, .ref mod_, .int (nI n), .ref mne, .ref mro, .int (nI m), .int rrt, .int rfr, .int rpr, .ref mrod, .int (nI rn9), .ref mrne, .ref mrro, .int (nI rm9), .ref mrp, .ref mpg, .ref mbk, .int (nI ac), .ref mke, .ref mik, .int (nI cr), .ref mrw, .ref mrd, .long sd, .ref mtr, .ref mwo, .ref mnx, .int jr])), (mpg, .inl (cI, 36, .inl g)), (mtr, .inl (cI, 36, .inl t))] := hD
    have h_5 : r_4 = if ¬ x2.toInt64 < 0 ∧ ¬ 2 < x2.toInt64 then 1 else 0 := h_5
    subst h_5
    refine lv_if_eq (tgt := 56) hx hb dX9_school_24 (by decide) (fun c_6 => ?_) (fun c_6 => ?_)
    · have c_6 := zb0 c_6
      have hrgn := fun q => c_6 ((zinr (x := x2) 0 2 rfl rfl).mpr q)
      refine lv_bipush (v := -2) hx hb dX9_school_56 (by decide) ?_
      exact z_iret Z (t) (by first | rw [zPa_n (by assumption)] | (rw [zPa_y hp hn]; first | rw [zRa_n hrgn] | (rw [zRa_y hc0 hc (by decide)]; first | rw [zRa_n hrgn] | (rw [zRa_y hd0 hd (by decide)]; first | (rw [zsco_x hzi]; done) | (rw [zsco_n hd hw hi9 hk5]; done) | (rw [zsco_y hd hw hv101_2]; done)))) | rfl) hP hS dX9_school_58
    · have c_6 := zb1 c_6
      have hrg := (zinr (x := x2) 0 2 rfl rfl).mp c_6
      obtain ⟨c, hc0, hc, rfl⟩ := zRa_of (lo := 0) (hi := 2) (by decide) (by decide) hrg.1 hrg.2
      refine lv_iload_n hx hb dX9_school_27 rfl (lv_at hl 3 rfl) ?_
      refine lv_i2l (v := x3.toInt64) hx hb dX9_school_28 rfl ?_
      refine lv_lconst (v := 1) hx hb dX9_school_29 (by decide) ?_
      refine lv_ldc2 (v := 8) hx hb hown (hts _ zm920) dX9_school_30 ?_
      refine z_callSi (As := [.long x3.toInt64, .long 1, .long 8]) (rest := []) Z hP hD hS hl.1 (zc_X9_in l D cI cZ x3.toInt64 1 8 ) zm750 zm751 zm39 zm752 zd_X9_in ⟨Nat.le_of_ble_eq_true rfl, Nat.le_of_ble_eq_true rfl⟩ ⟨Nat.zero_le _, Nat.zero_le _⟩ [] rfl (by decide) (fun _ => rfl) rfl (Nat.le_of_ble_eq_true rfl) rfl dX9_school_33 (fun r_7 u H locs h_8 hP hD hS => ?_)
      have hP : va_P D vwCl [(M, .inr (9, [.int (nI 0), .ref mtx, .int (nI len), .int (nI pl), .int rt, .int fr, .int pr, .ref mod_, .int (nI n), .ref mne, .ref mro, .int (nI m), .int rrt, .int rfr, .int rpr, .ref mrod, .int (nI rn9), .ref mrne, .ref mrro, .int (nI rm9), .ref mrp, .ref mpg, .ref mbk, .int (nI ac), .ref mke, .ref mik, .int (nI cr), .ref mrw, .ref mrd, .long sd, .ref mtr, .ref mwo, .ref mnx, .int jr])), (mpg, .inl (cI, 36, .inl g)), (mtr, .inl (cI, 36, .inl t))] H := hP
      have hD : va_D A [(M, .inr (9, [.int (nI 0), .ref mtx, .int (nI len), .int (nI pl), .int rt, .int fr, .int pr, .ref mod_, .int (nI n), .ref mne, .ref mro, .int (nI m), .int rrt, .int rfr, .int rpr, .ref mrod, .int (nI rn9), .ref mrne, .ref mrro, .int (nI rm9), .ref mrp, .ref mpg, .ref mbk, .int (nI ac), .ref mke, .ref mik, .int (nI cr), .ref mrw, .ref mrd, .long sd, .ref mtr, .ref mwo, .ref mnx, .int jr])), (mpg, .inl (cI, 36, .inl g)), (mtr, .inl (cI, 36, .inl t))] := hD
      have h_8 : r_7 = if ¬ x3.toInt64 < 1 ∧ ¬ 8 < x3.toInt64 then 1 else 0 := h_8
      subst h_8
      refine lv_if_eq (tgt := 56) hx hb dX9_school_36 (by decide) (fun c_9 => ?_) (fun c_9 => ?_)
      · have c_9 := zb0 c_9
        have hrgn := fun q => c_9 ((zinr (x := x3) 1 8 rfl rfl).mpr q)
        refine lv_bipush (v := -2) hx hb dX9_school_56 (by decide) ?_
        exact z_iret Z (t) (by first | rw [zPa_n (by assumption)] | (rw [zPa_y hp hn]; first | rw [zRa_n hrgn] | (rw [zRa_y hc0 hc (by decide)]; first | rw [zRa_n hrgn] | (rw [zRa_y hd0 hd (by decide)]; first | (rw [zsco_x hzi]; done) | (rw [zsco_n hd hw hi9 hk5]; done) | (rw [zsco_y hd hw hv101_2]; done)))) | rfl) hP hS dX9_school_58
      · have c_9 := zb1 c_9
        have hrg := (zinr (x := x3) 1 8 rfl rfl).mp c_9
        obtain ⟨d, hd0, hd, rfl⟩ := zRa_of (lo := 1) (hi := 8) (by decide) (by decide) hrg.1 hrg.2
        refine lv_iload hx hb dX9_school_39 (lv_at hl 4 rfl) ?_
        refine lv_i2l (v := x4.toInt64) hx hb dX9_school_41 rfl ?_
        refine lv_lconst (v := 0) hx hb dX9_school_42 (by decide) ?_
        have h10 := zp10b hd
        refine lv_iload_n hx hb dX9_school_43 rfl (lv_at hl 3 rfl) ?_
        refine z_callSi (As := [.int (nI d)]) (rest := [.long 0, .long x4.toInt64]) Z hP hD hS hl.1 (zc_X9_ten l D cI cZ d (by omega)) zm873 zm874 zm39 zm875 zd_X9_ten ⟨Nat.le_of_ble_eq_true rfl, Nat.le_of_ble_eq_true rfl⟩ ⟨Nat.zero_le _, Nat.zero_le _⟩ [] rfl (by decide) (fun _ => rfl) rfl (Nat.le_of_ble_eq_true rfl) rfl dX9_school_44 (fun r_10 u H locs h_11 hP hD hS => ?_)
        have hP : va_P D vwCl [(M, .inr (9, [.int (nI 0), .ref mtx, .int (nI len), .int (nI pl), .int rt, .int fr, .int pr, .ref mod_, .int (nI n), .ref mne, .ref mro, .int (nI m), .int rrt, .int rfr, .int rpr, .ref mrod, .int (nI rn9), .ref mrne, .ref mrro, .int (nI rm9), .ref mrp, .ref mpg, .ref mbk, .int (nI ac), .ref mke, .ref mik, .int (nI cr), .ref mrw, .ref mrd, .long sd, .ref mtr, .ref mwo, .ref mnx, .int jr])), (mpg, .inl (cI, 36, .inl g)), (mtr, .inl (cI, 36, .inl t))] H := hP
        have hD : va_D A [(M, .inr (9, [.int (nI 0), .ref mtx, .int (nI len), .int (nI pl), .int rt, .int fr, .int pr, .ref mod_, .int (nI n), .ref mne, .ref mro, .int (nI m), .int rrt, .int rfr, .int rpr, .ref mrod, .int (nI rn9), .ref mrne, .ref mrro, .int (nI rm9), .ref mrp, .ref mpg, .ref mbk, .int (nI ac), .ref mke, .ref mik, .int (nI cr), .ref mrw, .ref mrd, .long sd, .ref mtr, .ref mwo, .ref mnx, .int jr])), (mpg, .inl (cI, 36, .inl g)), (mtr, .inl (cI, 36, .inl t))] := hD
        have h_11 : r_10 = nI (10 ^ d) := h_11
        subst h_11
        refine lv_iconst (v := nI 1) hx hb dX9_school_47 (by decide) ?_
        refine lv_isub hx hb dX9_school_48 ?_
        refine lv_i2l (v := ((nI (10 ^ d)) - (nI 1)).toInt64) hx hb dX9_school_49 rfl ?_
        refine z_callSi (As := [.long x4.toInt64, .long 0, .long (((nI (10 ^ d)) - (nI 1)).toInt64)]) (rest := []) Z hP hD hS hl.1 (zc_X9_in l D cI cZ x4.toInt64 0 (((nI (10 ^ d)) - (nI 1)).toInt64) ) zm750 zm751 zm39 zm752 zd_X9_in ⟨Nat.le_of_ble_eq_true rfl, Nat.le_of_ble_eq_true rfl⟩ ⟨Nat.zero_le _, Nat.zero_le _⟩ [] rfl (by decide) (fun _ => rfl) rfl (Nat.le_of_ble_eq_true rfl) rfl dX9_school_50 (fun r_12 u H locs h_13 hP hD hS => ?_)
        have hP : va_P D vwCl [(M, .inr (9, [.int (nI 0), .ref mtx, .int (nI len), .int (nI pl), .int rt, .int fr, .int pr, .ref mod_, .int (nI n), .ref mne, .ref mro, .int (nI m), .int rrt, .int rfr, .int rpr, .ref mrod, .int (nI rn9), .ref mrne, .ref mrro, .int (nI rm9), .ref mrp, .ref mpg, .ref mbk, .int (nI ac), .ref mke, .ref mik, .int (nI cr), .ref mrw, .ref mrd, .long sd, .ref mtr, .ref mwo, .ref mnx, .int jr])), (mpg, .inl (cI, 36, .inl g)), (mtr, .inl (cI, 36, .inl t))] H := hP
        have hD : va_D A [(M, .inr (9, [.int (nI 0), .ref mtx, .int (nI len), .int (nI pl), .int rt, .int fr, .int pr, .ref mod_, .int (nI n), .ref mne, .ref mro, .int (nI m), .int rrt, .int rfr, .int rpr, .ref mrod, .int (nI rn9), .ref mrne, .ref mrro, .int (nI rm9), .ref mrp, .ref mpg, .ref mbk, .int (nI ac), .ref mke, .ref mik, .int (nI cr), .ref mrw, .ref mrd, .long sd, .ref mtr, .ref mwo, .ref mnx, .int jr])), (mpg, .inl (cI, 36, .inl g)), (mtr, .inl (cI, 36, .inl t))] := hD
        have h_13 : r_12 = if ¬ x4.toInt64 < 0 ∧ ¬ (((nI (10 ^ d)) - (nI 1)).toInt64) < x4.toInt64 then 1 else 0 := h_13
        subst h_13
        refine lv_if_ne (tgt := 59) hx hb dX9_school_53 (by decide) (fun c_14 => ?_) (fun c_14 => ?_)
        · have c_14 := zb1 c_14
          have hzi := (zinhB (n := 10 ^ d) (by omega) (by omega)).mp c_14
          obtain ⟨w, hw, rfl⟩ := zhas_of (by omega) hzi
          refine lv_iconst (v := nI 0) hx hb dX9_school_59 (by decide) ?_
          refine lv_istore (lv' := [(5, .int (nI 0)), (0, .ref M), (1, .int (nI p)), (2, .int (nI c)), (3, .int (nI d)), (4, .int (nI w))]) hx hb dX9_school_60 hl (by decide) rfl (fun ls hl => ?_)
          have hl : lv_has ls 9 [(5, .int (nI 0)), (0, .ref M), (1, .int (nI p)), (2, .int (nI c)), (3, .int (nI d)), (4, .int (nI w))] := lv_sub hl [0, 1, 2, 3, 4, 5] rfl
          refine z_loopm (fun (x_ : Nat × (Nat → Int32)) H locs ls => va_P D vwCl [(M, .inr (9, [.int (nI 0), .ref mtx, .int (nI len), .int (nI pl), .int rt, .int fr, .int pr, .ref mod_, .int (nI n), .ref mne, .ref mro, .int (nI m), .int rrt, .int rfr, .int rpr, .ref mrod, .int (nI rn9), .ref mrne, .ref mrro, .int (nI rm9), .ref mrp, .ref mpg, .ref mbk, .int (nI ac), .ref mke, .ref mik, .int (nI cr), .ref mrw, .ref mrd, .long sd, .ref mtr, .ref mwo, .ref mnx, .int jr])), (mpg, .inl (cI, 36, .inl g)), (mtr, .inl (cI, 36, .inl x_.2))] H ∧ va_D A [(M, .inr (9, [.int (nI 0), .ref mtx, .int (nI len), .int (nI pl), .int rt, .int fr, .int pr, .ref mod_, .int (nI n), .ref mne, .ref mro, .int (nI m), .int rrt, .int rfr, .int rpr, .ref mrod, .int (nI rn9), .ref mrne, .ref mrro, .int (nI rm9), .ref mrp, .ref mpg, .ref mbk, .int (nI ac), .ref mke, .ref mik, .int (nI cr), .ref mrw, .ref mrd, .long sd, .ref mtr, .ref mwo, .ref mnx, .int jr])), (mpg, .inl (cI, 36, .inl g)), (mtr, .inl (cI, 36, .inl x_.2))] ∧ va_S A sS.heap H locs ∧ lv_has ls 9 [(5, .int (nI x_.1)), (0, .ref M), (1, .int (nI p)), (2, .int (nI c)), (3, .int (nI d)), (4, .int (nI w))] ∧ (x_.1 ≤ 4) ∧ (∀ y, y < x_.1 → x_.2 y = f (p * 4 + y))) (fun x_ => 4 - x_.1) (0, t) ⟨hP, hD, hS, hl, (by first | omega | exact fun y hy => absurd hy (Nat.not_lt_zero _)), (by first | omega | exact fun y hy => absurd hy (Nat.not_lt_zero _))⟩ (fun x_ ih_15 H locs ls hI => ?_)
          obtain ⟨j, t9⟩ := x_
          obtain ⟨hP, hD, hS, hl, hv62_0, hv62_1⟩ := hI
          dsimp only at ih_15 hv62_0 hv62_1
          have hv62_0 : j ≤ 4 := hv62_0
          have hv62_1 : ∀ y, y < j → t9 y = f (p * 4 + y) := hv62_1
          have hP : va_P D vwCl [(M, .inr (9, [.int (nI 0), .ref mtx, .int (nI len), .int (nI pl), .int rt, .int fr, .int pr, .ref mod_, .int (nI n), .ref mne, .ref mro, .int (nI m), .int rrt, .int rfr, .int rpr, .ref mrod, .int (nI rn9), .ref mrne, .ref mrro, .int (nI rm9), .ref mrp, .ref mpg, .ref mbk, .int (nI ac), .ref mke, .ref mik, .int (nI cr), .ref mrw, .ref mrd, .long sd, .ref mtr, .ref mwo, .ref mnx, .int jr])), (mpg, .inl (cI, 36, .inl g)), (mtr, .inl (cI, 36, .inl t9))] H := hP
          have hD : va_D A [(M, .inr (9, [.int (nI 0), .ref mtx, .int (nI len), .int (nI pl), .int rt, .int fr, .int pr, .ref mod_, .int (nI n), .ref mne, .ref mro, .int (nI m), .int rrt, .int rfr, .int rpr, .ref mrod, .int (nI rn9), .ref mrne, .ref mrro, .int (nI rm9), .ref mrp, .ref mpg, .ref mbk, .int (nI ac), .ref mke, .ref mik, .int (nI cr), .ref mrw, .ref mrd, .long sd, .ref mtr, .ref mwo, .ref mnx, .int jr])), (mpg, .inl (cI, 36, .inl g)), (mtr, .inl (cI, 36, .inl t9))] := hD
          have hl : lv_has ls 9 [(5, .int (nI j)), (0, .ref M), (1, .int (nI p)), (2, .int (nI c)), (3, .int (nI d)), (4, .int (nI w))] := hl
          refine lv_iload hx hb dX9_school_62 (lv_at hl 0 rfl) ?_
          refine lv_iconst (v := nI 4) hx hb dX9_school_64 (by decide) ?_
          refine lv_icmp_ge (tgt := 93) hx hb dX9_school_65 (by decide) (fun c_16 => ?_) (fun c_16 => ?_)
          · have c_16 := zle (i := 4) (j := j) (by decide) (by first | omega | exact Nat.pow_pos (by decide) | exact Nat.lt_of_le_of_lt (Nat.pow_le_pow_right (show 0 < 10 by decide) (show d - i - 1 ≤ 8 by omega)) (by decide) | exact Nat.lt_of_le_of_lt (Nat.div_le_self _ _) (by omega)) c_16
            have hE_ : 4 = j := by omega
            subst hE_
            have hR0 := zscR_i (sc := nI c) (d := d) (w := w) (by omega) hv62_1
            refine lv_iconst (v := nI 0) hx hb dX9_school_93 (by decide) ?_
            refine lv_istore (lv' := [(5, .int (nI 0)), (0, .ref M), (1, .int (nI p)), (2, .int (nI c)), (3, .int (nI d)), (4, .int (nI w))]) hx hb dX9_school_94 hl (by decide) rfl (fun ls hl => ?_)
            refine lv_iload_n hx hb dX9_school_96 rfl (lv_at hl 4 rfl) ?_
            refine lv_iconst (v := nI 1) hx hb dX9_school_97 (by decide) ?_
            refine lv_isub hx hb dX9_school_98 ?_
            refine z_top (y := nI (d - 1)) (z_sub' (by first | omega | exact Nat.pow_pos (by decide) | exact Nat.lt_of_le_of_lt (Nat.pow_le_pow_right (show 0 < 10 by decide) (show d - i - 1 ≤ 8 by omega)) (by decide) | exact Nat.lt_of_le_of_lt (Nat.div_le_self _ _) (by omega))) ?_
            refine lv_istore (lv' := [(6, .int (nI (d - 1))), (5, .int (nI 0)), (0, .ref M), (1, .int (nI p)), (2, .int (nI c)), (3, .int (nI d)), (4, .int (nI w))]) hx hb dX9_school_99 hl (by decide) rfl (fun ls hl => ?_)
            have hl : lv_has ls 9 [(6, .int (nI (d - 1))), (5, .int (nI 0)), (0, .ref M), (1, .int (nI p)), (2, .int (nI c)), (3, .int (nI d)), (4, .int (nI w))] := lv_sub hl [0, 1, 2, 3, 4, 5, 6] rfl
            have e_18 : nI (d - 1) = nI (d - 0) - 1 := by first | exact zdn_z hd0 | rfl
            have hl : lv_has ls 9 [(6, .int (nI (d - 0) - 1)), (5, .int (nI 0)), (0, .ref M), (1, .int (nI p)), (2, .int (nI c)), (3, .int (nI d)), (4, .int (nI w))] := Eq.subst (motive := fun zz_ => lv_has ls 9 [(6, .int zz_), (5, .int (nI 0)), (0, .ref M), (1, .int (nI p)), (2, .int (nI c)), (3, .int (nI d)), (4, .int (nI w))]) e_18 hl
            have e_19 : nI 0 = (zss f p fr (nI c) d w 0) := by first | exact zdn_z hd0 | rfl
            have hl : lv_has ls 9 [(6, .int (nI (d - 0) - 1)), (5, .int (zss f p fr (nI c) d w 0)), (0, .ref M), (1, .int (nI p)), (2, .int (nI c)), (3, .int (nI d)), (4, .int (nI w))] := Eq.subst (motive := fun zz_ => lv_has ls 9 [(6, .int (nI (d - 0) - 1)), (5, .int zz_), (0, .ref M), (1, .int (nI p)), (2, .int (nI c)), (3, .int (nI d)), (4, .int (nI w))]) e_19 hl
            refine z_loopm (fun (x_ : Nat × (Nat → Int32)) H locs ls => va_P D vwCl [(M, .inr (9, [.int (nI 0), .ref mtx, .int (nI len), .int (nI pl), .int rt, .int fr, .int pr, .ref mod_, .int (nI n), .ref mne, .ref mro, .int (nI m), .int rrt, .int rfr, .int rpr, .ref mrod, .int (nI rn9), .ref mrne, .ref mrro, .int (nI rm9), .ref mrp, .ref mpg, .ref mbk, .int (nI ac), .ref mke, .ref mik, .int (nI cr), .ref mrw, .ref mrd, .long sd, .ref mtr, .ref mwo, .ref mnx, .int jr])), (mpg, .inl (cI, 36, .inl g)), (mtr, .inl (cI, 36, .inl x_.2))] H ∧ va_D A [(M, .inr (9, [.int (nI 0), .ref mtx, .int (nI len), .int (nI pl), .int rt, .int fr, .int pr, .ref mod_, .int (nI n), .ref mne, .ref mro, .int (nI m), .int rrt, .int rfr, .int rpr, .ref mrod, .int (nI rn9), .ref mrne, .ref mrro, .int (nI rm9), .ref mrp, .ref mpg, .ref mbk, .int (nI ac), .ref mke, .ref mik, .int (nI cr), .ref mrw, .ref mrd, .long sd, .ref mtr, .ref mwo, .ref mnx, .int jr])), (mpg, .inl (cI, 36, .inl g)), (mtr, .inl (cI, 36, .inl x_.2))] ∧ va_S A sS.heap H locs ∧ lv_has ls 9 [(6, .int (nI (d - x_.1) - 1)), (5, .int (zss f p fr (nI c) d w x_.1)), (0, .ref M), (1, .int (nI p)), (2, .int (nI c)), (3, .int (nI d)), (4, .int (nI w))] ∧ (x_.1 ≤ d) ∧ (zscR f p (nI c) d w x_.1 x_.2) ∧ (∀ y, y < x_.1 → zdi w d y < 4)) (fun x_ => d - x_.1) (0, t9) ⟨hP, hD, hS, hl, (by first | omega | exact hR0 | exact fun y hy => absurd hy (Nat.not_lt_zero _)), (by first | omega | exact hR0 | exact fun y hy => absurd hy (Nat.not_lt_zero _)), (by first | omega | exact hR0 | exact fun y hy => absurd hy (Nat.not_lt_zero _))⟩ (fun x_ ih_17 H locs ls hI => ?_)
            obtain ⟨i, t8⟩ := x_
            obtain ⟨hP, hD, hS, hl, hv101_0, hv101_1, hv101_2⟩ := hI
            dsimp only at ih_17 hv101_0 hv101_1 hv101_2
            have hv101_0 : i ≤ d := hv101_0
            have hv101_1 : zscR f p (nI c) d w i t8 := hv101_1
            have hv101_2 : ∀ y, y < i → zdi w d y < 4 := hv101_2
            have hP : va_P D vwCl [(M, .inr (9, [.int (nI 0), .ref mtx, .int (nI len), .int (nI pl), .int rt, .int fr, .int pr, .ref mod_, .int (nI n), .ref mne, .ref mro, .int (nI m), .int rrt, .int rfr, .int rpr, .ref mrod, .int (nI rn9), .ref mrne, .ref mrro, .int (nI rm9), .ref mrp, .ref mpg, .ref mbk, .int (nI ac), .ref mke, .ref mik, .int (nI cr), .ref mrw, .ref mrd, .long sd, .ref mtr, .ref mwo, .ref mnx, .int jr])), (mpg, .inl (cI, 36, .inl g)), (mtr, .inl (cI, 36, .inl t8))] H := hP
            have hD : va_D A [(M, .inr (9, [.int (nI 0), .ref mtx, .int (nI len), .int (nI pl), .int rt, .int fr, .int pr, .ref mod_, .int (nI n), .ref mne, .ref mro, .int (nI m), .int rrt, .int rfr, .int rpr, .ref mrod, .int (nI rn9), .ref mrne, .ref mrro, .int (nI rm9), .ref mrp, .ref mpg, .ref mbk, .int (nI ac), .ref mke, .ref mik, .int (nI cr), .ref mrw, .ref mrd, .long sd, .ref mtr, .ref mwo, .ref mnx, .int jr])), (mpg, .inl (cI, 36, .inl g)), (mtr, .inl (cI, 36, .inl t8))] := hD
            have hl : lv_has ls 9 [(6, .int (nI (d - i) - 1)), (5, .int (zss f p fr (nI c) d w i)), (0, .ref M), (1, .int (nI p)), (2, .int (nI c)), (3, .int (nI d)), (4, .int (nI w))] := hl
            refine lv_iload hx hb dX9_school_101 (lv_at hl 0 rfl) ?_
            refine lv_if_lt (tgt := 215) hx hb dX9_school_103 (by decide) (fun c_20 => ?_) (fun c_20 => ?_)
            · have c_20 : (nI (d - i) - 1) < 0 := c_20
              have hdi := zdown_t (by omega) c_20
              have hE_ : d = i := by omega
              subst hE_
              refine lv_iload hx hb dX9_school_215 (lv_at hl 1 rfl) ?_
              exact z_iret Z (t8) (by first | rw [zPa_n (by assumption)] | (rw [zPa_y hp hn]; first | rw [zRa_n hrgn] | (rw [zRa_y hc0 hc (by decide)]; first | rw [zRa_n hrgn] | (rw [zRa_y hd0 hd (by decide)]; first | (rw [zsco_x hzi]; done) | (rw [zsco_n hd hw hi9 hk5]; done) | (rw [zsco_y hd hw hv101_2]; done)))) | rfl) hP hS dX9_school_217
            · have c_20 : ¬ ((nI (d - i) - 1) < 0) := c_20
              have hdf := zdown_f c_20
              have hE : (nI (d - i) - 1 : Int32) = (nI (d - i - 1)) := hdf.2
              have hl : lv_has ls 9 [(6, .int (nI (d - i - 1))), (5, .int (zss f p fr (nI c) d w i)), (0, .ref M), (1, .int (nI p)), (2, .int (nI c)), (3, .int (nI d)), (4, .int (nI w))] := Eq.subst (motive := fun zz_ => lv_has ls 9 [(6, .int zz_), (5, .int (zss f p fr (nI c) d w i)), (0, .ref M), (1, .int (nI p)), (2, .int (nI c)), (3, .int (nI d)), (4, .int (nI w))]) hE hl
              have hi9 : i < d := by omega
              have hsv := zsg_v (sc := nI c) (d := d) (w := w) (hpv p hp) (by omega) i hv101_2
              refine lv_iload hx hb dX9_school_106 (lv_at hl 6 rfl) ?_
              refine lv_iload hx hb dX9_school_108 (lv_at hl 0 rfl) ?_
              refine z_callSi (As := [.int (nI (d - i - 1))]) (rest := [.int (nI w)]) Z hP hD hS hl.1 (zc_X9_ten l D cI cZ (d - i - 1) (by omega)) zm873 zm874 zm39 zm875 zd_X9_ten ⟨Nat.le_of_ble_eq_true rfl, Nat.le_of_ble_eq_true rfl⟩ ⟨Nat.zero_le _, Nat.zero_le _⟩ [] rfl (by decide) (fun _ => rfl) rfl (Nat.le_of_ble_eq_true rfl) rfl dX9_school_110 (fun r_21 u H locs h_22 hP hD hS => ?_)
              have hP : va_P D vwCl [(M, .inr (9, [.int (nI 0), .ref mtx, .int (nI len), .int (nI pl), .int rt, .int fr, .int pr, .ref mod_, .int (nI n), .ref mne, .ref mro, .int (nI m), .int rrt, .int rfr, .int rpr, .ref mrod, .int (nI rn9), .ref mrne, .ref mrro, .int (nI rm9), .ref mrp, .ref mpg, .ref mbk, .int (nI ac), .ref mke, .ref mik, .int (nI cr), .ref mrw, .ref mrd, .long sd, .ref mtr, .ref mwo, .ref mnx, .int jr])), (mpg, .inl (cI, 36, .inl g)), (mtr, .inl (cI, 36, .inl t8))] H := hP
              have hD : va_D A [(M, .inr (9, [.int (nI 0), .ref mtx, .int (nI len), .int (nI pl), .int rt, .int fr, .int pr, .ref mod_, .int (nI n), .ref mne, .ref mro, .int (nI m), .int rrt, .int rfr, .int rpr, .ref mrod, .int (nI rn9), .ref mrne, .ref mrro, .int (nI rm9), .ref mrp, .ref mpg, .ref mbk, .int (nI ac), .ref mke, .ref mik, .int (nI cr), .ref mrw, .ref mrd, .long sd, .ref mtr, .ref mwo, .ref mnx, .int jr])), (mpg, .inl (cI, 36, .inl g)), (mtr, .inl (cI, 36, .inl t8))] := hD
              have h_22 : r_21 = nI (10 ^ (d - i - 1)) := h_22
              subst h_22
              refine lv_idiv hx hb dX9_school_113 (by exact fun z => absurd (zeq (j := 0) (Nat.lt_of_le_of_lt (Nat.pow_le_pow_right (show 0 < 10 by decide) (show d - i - 1 ≤ 8 by omega)) (by decide)) (by decide) z) (Nat.ne_of_gt (Nat.pow_pos (by decide)))) ?_
              refine z_top (y := nI (w / (10 ^ (d - i - 1)))) (pk_div (by first | omega | exact Nat.pow_pos (by decide) | exact Nat.lt_of_le_of_lt (Nat.pow_le_pow_right (show 0 < 10 by decide) (show d - i - 1 ≤ 8 by omega)) (by decide) | exact Nat.lt_of_le_of_lt (Nat.div_le_self _ _) (by omega)) (by first | omega | exact Nat.pow_pos (by decide) | exact Nat.lt_of_le_of_lt (Nat.pow_le_pow_right (show 0 < 10 by decide) (show d - i - 1 ≤ 8 by omega)) (by decide) | exact Nat.lt_of_le_of_lt (Nat.div_le_self _ _) (by omega)) (by first | omega | exact Nat.pow_pos (by decide) | exact Nat.lt_of_le_of_lt (Nat.pow_le_pow_right (show 0 < 10 by decide) (show d - i - 1 ≤ 8 by omega)) (by decide) | exact Nat.lt_of_le_of_lt (Nat.div_le_self _ _) (by omega))) ?_
              refine lv_bipush (v := nI 10) hx hb dX9_school_114 (by decide) ?_
              refine lv_irem hx hb dX9_school_116 (by decide) ?_
              refine z_top (y := nI ((w / (10 ^ (d - i - 1))) % 10)) (pk_rem (by first | omega | exact Nat.pow_pos (by decide) | exact Nat.lt_of_le_of_lt (Nat.pow_le_pow_right (show 0 < 10 by decide) (show d - i - 1 ≤ 8 by omega)) (by decide) | exact Nat.lt_of_le_of_lt (Nat.div_le_self _ _) (by omega)) (by decide) (by decide)) ?_
              refine z_top (y := nI (zdi w d i)) (by show nI (w / 10 ^ (d - i - 1) % 10) = nI (w / 10 ^ (d - 1 - i) % 10); rw [show d - i - 1 = d - 1 - i by omega]) ?_
              refine lv_istore (lv' := [(7, .int (nI (zdi w d i))), (6, .int (nI (d - i - 1))), (5, .int (zss f p fr (nI c) d w i)), (0, .ref M), (1, .int (nI p)), (2, .int (nI c)), (3, .int (nI d)), (4, .int (nI w))]) hx hb dX9_school_117 hl (by decide) rfl (fun ls hl => ?_)
              refine lv_iload hx hb dX9_school_119 (lv_at hl 0 rfl) ?_
              refine z_callSi (As := [.int (nI (zdi w d i))]) (rest := []) Z hP hD hS hl.1 (zc_X9_noKind l D cI cZ (nI (zdi w d i)) ) zm806 zm807 zm39 zm808 zd_X9_noKind ⟨Nat.le_of_ble_eq_true rfl, Nat.le_of_ble_eq_true rfl⟩ ⟨Nat.zero_le _, Nat.zero_le _⟩ [] rfl (by decide) (fun _ => rfl) rfl (Nat.le_of_ble_eq_true rfl) rfl dX9_school_121 (fun r_23 u H locs h_24 hP hD hS => ?_)
              have hP : va_P D vwCl [(M, .inr (9, [.int (nI 0), .ref mtx, .int (nI len), .int (nI pl), .int rt, .int fr, .int pr, .ref mod_, .int (nI n), .ref mne, .ref mro, .int (nI m), .int rrt, .int rfr, .int rpr, .ref mrod, .int (nI rn9), .ref mrne, .ref mrro, .int (nI rm9), .ref mrp, .ref mpg, .ref mbk, .int (nI ac), .ref mke, .ref mik, .int (nI cr), .ref mrw, .ref mrd, .long sd, .ref mtr, .ref mwo, .ref mnx, .int jr])), (mpg, .inl (cI, 36, .inl g)), (mtr, .inl (cI, 36, .inl t8))] H := hP
              have hD : va_D A [(M, .inr (9, [.int (nI 0), .ref mtx, .int (nI len), .int (nI pl), .int rt, .int fr, .int pr, .ref mod_, .int (nI n), .ref mne, .ref mro, .int (nI m), .int rrt, .int rfr, .int rpr, .ref mrod, .int (nI rn9), .ref mrne, .ref mrro, .int (nI rm9), .ref mrp, .ref mpg, .ref mbk, .int (nI ac), .ref mke, .ref mik, .int (nI cr), .ref mrw, .ref mrd, .long sd, .ref mtr, .ref mwo, .ref mnx, .int jr])), (mpg, .inl (cI, 36, .inl g)), (mtr, .inl (cI, 36, .inl t8))] := hD
              have h_24 : r_23 = if ¬ zkind (nI (zdi w d i)) then 1 else 0 := h_24
              subst h_24
              refine lv_if_eq (tgt := 130) hx hb dX9_school_124 (by decide) (fun c_25 => ?_) (fun c_25 => ?_)
              · have c_25 := zb0 c_25
                have hk4 := zkind_lt (Classical.not_not.mp c_25) (Nat.lt_trans (Nat.mod_lt _ (by decide)) (by decide))
                have hk4 : zdi w d i < 4 := hk4
                refine lv_iload hx hb dX9_school_130 (lv_at hl 2 rfl) ?_
                refine lv_aload_n hx hb dX9_school_132 rfl (lv_at hl 3 rfl) ?_
                refine z_get (ci := 9) (v := .ref mtr) Z zin9 hP 0 rfl rfl 30 (by decide) zm707 rfl rfl dX9_school_133 ?_
                refine lv_iload hx hb dX9_school_136 (lv_at hl 0 rfl) ?_
                refine z_iald (n := 36) (f := t8) (j := zdi w d i) Z hP 2 rfl (by first | omega | exact Nat.pow_pos (by decide) | exact Nat.lt_of_le_of_lt (Nat.pow_le_pow_right (show 0 < 10 by decide) (show d - i - 1 ≤ 8 by omega)) (by decide) | exact Nat.lt_of_le_of_lt (Nat.div_le_self _ _) (by omega)) (by decide) dX9_school_138 ?_
                refine lv_iload hx hb dX9_school_139 (lv_at hl 0 rfl) ?_
                refine lv_bipush (v := -9) hx hb dX9_school_141 (by decide) ?_
                refine lv_bipush (v := -9) hx hb dX9_school_143 (by decide) ?_
                refine lv_aload_n hx hb dX9_school_145 rfl (lv_at hl 3 rfl) ?_
                refine z_get (ci := 9) (v := .int fr) Z zin9 hP 0 rfl rfl 5 (by decide) zm682 rfl rfl dX9_school_146 ?_
                refine z_callSi (As := [.int (t8 (zdi w d i)), .int (nI (zdi w d i)), .int (-9), .int (-9), .int fr]) (rest := [.int (zss f p fr (nI c) d w i)]) Z hP hD hS hl.1 (zc_X9_surprise l D cI cZ (t8 (zdi w d i)) (zdi w d i) (-9) (-9) fr (by omega)) zm826 zm827 zm39 zm828 zd_X9_surprise ⟨Nat.le_of_ble_eq_true rfl, Nat.le_of_ble_eq_true rfl⟩ ⟨Nat.zero_le _, Nat.zero_le _⟩ [] rfl (by decide) (fun _ => rfl) rfl (Nat.le_of_ble_eq_true rfl) rfl dX9_school_149 (fun r_26 u H locs h_27 hP hD hS => ?_)
                have hP : va_P D vwCl [(M, .inr (9, [.int (nI 0), .ref mtx, .int (nI len), .int (nI pl), .int rt, .int fr, .int pr, .ref mod_, .int (nI n), .ref mne, .ref mro, .int (nI m), .int rrt, .int rfr, .int rpr, .ref mrod, .int (nI rn9), .ref mrne, .ref mrro, .int (nI rm9), .ref mrp, .ref mpg, .ref mbk, .int (nI ac), .ref mke, .ref mik, .int (nI cr), .ref mrw, .ref mrd, .long sd, .ref mtr, .ref mwo, .ref mnx, .int jr])), (mpg, .inl (cI, 36, .inl g)), (mtr, .inl (cI, 36, .inl t8))] H := hP
                have hD : va_D A [(M, .inr (9, [.int (nI 0), .ref mtx, .int (nI len), .int (nI pl), .int rt, .int fr, .int pr, .ref mod_, .int (nI n), .ref mne, .ref mro, .int (nI m), .int rrt, .int rfr, .int rpr, .ref mrod, .int (nI rn9), .ref mrne, .ref mrro, .int (nI rm9), .ref mrp, .ref mpg, .ref mbk, .int (nI ac), .ref mke, .ref mik, .int (nI cr), .ref mrw, .ref mrd, .long sd, .ref mtr, .ref mwo, .ref mnx, .int jr])), (mpg, .inl (cI, 36, .inl g)), (mtr, .inl (cI, 36, .inl t8))] := hD
                have h_27 : r_26 = zsu (t8 (zdi w d i)) (-9) (-9) (nI (zdi w d i)) fr := h_27
                subst h_27
                refine lv_iadd hx hb dX9_school_152 ?_
                refine z_top (y := (zss f p fr (nI c) d w i) + (zsu (t8 (zdi w d i)) (-9) (-9) (nI (zdi w d i)) fr)) rfl ?_
                refine z_top (y := zss f p fr (nI c) d w (i + 1)) (zss_m hv101_1 hsv.2.1 hsv.2.2 hk4) ?_
                refine lv_istore (lv' := [(5, .int (zss f p fr (nI c) d w (i + 1))), (7, .int (nI (zdi w d i))), (6, .int (nI (d - i - 1))), (0, .ref M), (1, .int (nI p)), (2, .int (nI c)), (3, .int (nI d)), (4, .int (nI w))]) hx hb dX9_school_153 hl (by decide) rfl (fun ls hl => ?_)
                refine lv_iload_n hx hb dX9_school_155 rfl (lv_at hl 5 rfl) ?_
                refine lv_if_ne (tgt := 169) hx hb dX9_school_156 (by decide) (fun c_28 => ?_) (fun c_28 => ?_)
                · have c_28 := zne (i := c) (j := 0) c_28
                  refine lv_iconst (v := nI 0) hx hb dX9_school_169 (by decide) ?_
                  refine lv_istore (lv' := [(8, .int (nI 0)), (5, .int (zss f p fr (nI c) d w (i + 1))), (7, .int (nI (zdi w d i))), (6, .int (nI (d - i - 1))), (0, .ref M), (1, .int (nI p)), (2, .int (nI c)), (3, .int (nI d)), (4, .int (nI w))]) hx hb dX9_school_170 hl (by decide) rfl (fun ls hl => ?_)
                  have e_30 : t8 = zscT c (zdi w d i) 0 t8 := by first | exact zscT_0 (by assumption) | exact zscT_1 (by assumption)
                  have hP : va_P D vwCl [(M, .inr (9, [.int (nI 0), .ref mtx, .int (nI len), .int (nI pl), .int rt, .int fr, .int pr, .ref mod_, .int (nI n), .ref mne, .ref mro, .int (nI m), .int rrt, .int rfr, .int rpr, .ref mrod, .int (nI rn9), .ref mrne, .ref mrro, .int (nI rm9), .ref mrp, .ref mpg, .ref mbk, .int (nI ac), .ref mke, .ref mik, .int (nI cr), .ref mrw, .ref mrd, .long sd, .ref mtr, .ref mwo, .ref mnx, .int jr])), (mpg, .inl (cI, 36, .inl g)), (mtr, .inl (cI, 36, .inl (zscT c (zdi w d i) 0 t8)))] H := Eq.subst (motive := fun zz_ => va_P D vwCl [(M, .inr (9, [.int (nI 0), .ref mtx, .int (nI len), .int (nI pl), .int rt, .int fr, .int pr, .ref mod_, .int (nI n), .ref mne, .ref mro, .int (nI m), .int rrt, .int rfr, .int rpr, .ref mrod, .int (nI rn9), .ref mrne, .ref mrro, .int (nI rm9), .ref mrp, .ref mpg, .ref mbk, .int (nI ac), .ref mke, .ref mik, .int (nI cr), .ref mrw, .ref mrd, .long sd, .ref mtr, .ref mwo, .ref mnx, .int jr])), (mpg, .inl (cI, 36, .inl g)), (mtr, .inl (cI, 36, .inl zz_))] H) e_30 hP
                  have hD : va_D A [(M, .inr (9, [.int (nI 0), .ref mtx, .int (nI len), .int (nI pl), .int rt, .int fr, .int pr, .ref mod_, .int (nI n), .ref mne, .ref mro, .int (nI m), .int rrt, .int rfr, .int rpr, .ref mrod, .int (nI rn9), .ref mrne, .ref mrro, .int (nI rm9), .ref mrp, .ref mpg, .ref mbk, .int (nI ac), .ref mke, .ref mik, .int (nI cr), .ref mrw, .ref mrd, .long sd, .ref mtr, .ref mwo, .ref mnx, .int jr])), (mpg, .inl (cI, 36, .inl g)), (mtr, .inl (cI, 36, .inl (zscT c (zdi w d i) 0 t8)))] := zD_of hD rfl
                  have hl : lv_has ls 9 [(8, .int (nI 0)), (5, .int (zss f p fr (nI c) d w (i + 1))), (7, .int (nI (zdi w d i))), (6, .int (nI (d - i - 1))), (0, .ref M), (1, .int (nI p)), (2, .int (nI c)), (3, .int (nI d)), (4, .int (nI w))] := lv_sub hl [0, 1, 2, 3, 4, 5, 6, 7, 8] rfl
                  refine z_loop (fun y H locs ls => va_P D vwCl [(M, .inr (9, [.int (nI 0), .ref mtx, .int (nI len), .int (nI pl), .int rt, .int fr, .int pr, .ref mod_, .int (nI n), .ref mne, .ref mro, .int (nI m), .int rrt, .int rfr, .int rpr, .ref mrod, .int (nI rn9), .ref mrne, .ref mrro, .int (nI rm9), .ref mrp, .ref mpg, .ref mbk, .int (nI ac), .ref mke, .ref mik, .int (nI cr), .ref mrw, .ref mrd, .long sd, .ref mtr, .ref mwo, .ref mnx, .int jr])), (mpg, .inl (cI, 36, .inl g)), (mtr, .inl (cI, 36, .inl (zscT c (zdi w d i) y t8)))] H ∧ va_D A [(M, .inr (9, [.int (nI 0), .ref mtx, .int (nI len), .int (nI pl), .int rt, .int fr, .int pr, .ref mod_, .int (nI n), .ref mne, .ref mro, .int (nI m), .int rrt, .int rfr, .int rpr, .ref mrod, .int (nI rn9), .ref mrne, .ref mrro, .int (nI rm9), .ref mrp, .ref mpg, .ref mbk, .int (nI ac), .ref mke, .ref mik, .int (nI cr), .ref mrw, .ref mrd, .long sd, .ref mtr, .ref mwo, .ref mnx, .int jr])), (mpg, .inl (cI, 36, .inl g)), (mtr, .inl (cI, 36, .inl (zscT c (zdi w d i) y t8)))] ∧ va_S A sS.heap H locs ∧ lv_has ls 9 [(8, .int (nI y)), (5, .int (zss f p fr (nI c) d w (i + 1))), (7, .int (nI (zdi w d i))), (6, .int (nI (d - i - 1))), (0, .ref M), (1, .int (nI p)), (2, .int (nI c)), (3, .int (nI d)), (4, .int (nI w))]) (4) (lo := 0) (by omega) ⟨hP, hD, hS, hl⟩ (fun y hi_y ih_29 H locs ls hI => ?_)
                  obtain ⟨hP, hD, hS, hl⟩ := hI
                  have hP : va_P D vwCl [(M, .inr (9, [.int (nI 0), .ref mtx, .int (nI len), .int (nI pl), .int rt, .int fr, .int pr, .ref mod_, .int (nI n), .ref mne, .ref mro, .int (nI m), .int rrt, .int rfr, .int rpr, .ref mrod, .int (nI rn9), .ref mrne, .ref mrro, .int (nI rm9), .ref mrp, .ref mpg, .ref mbk, .int (nI ac), .ref mke, .ref mik, .int (nI cr), .ref mrw, .ref mrd, .long sd, .ref mtr, .ref mwo, .ref mnx, .int jr])), (mpg, .inl (cI, 36, .inl g)), (mtr, .inl (cI, 36, .inl (zscT c (zdi w d i) y t8)))] H := hP
                  have hD : va_D A [(M, .inr (9, [.int (nI 0), .ref mtx, .int (nI len), .int (nI pl), .int rt, .int fr, .int pr, .ref mod_, .int (nI n), .ref mne, .ref mro, .int (nI m), .int rrt, .int rfr, .int rpr, .ref mrod, .int (nI rn9), .ref mrne, .ref mrro, .int (nI rm9), .ref mrp, .ref mpg, .ref mbk, .int (nI ac), .ref mke, .ref mik, .int (nI cr), .ref mrw, .ref mrd, .long sd, .ref mtr, .ref mwo, .ref mnx, .int jr])), (mpg, .inl (cI, 36, .inl g)), (mtr, .inl (cI, 36, .inl (zscT c (zdi w d i) y t8)))] := hD
                  have hl : lv_has ls 9 [(8, .int (nI y)), (5, .int (zss f p fr (nI c) d w (i + 1))), (7, .int (nI (zdi w d i))), (6, .int (nI (d - i - 1))), (0, .ref M), (1, .int (nI p)), (2, .int (nI c)), (3, .int (nI d)), (4, .int (nI w))] := hl
                  refine lv_iload hx hb dX9_school_172 (lv_at hl 0 rfl) ?_
                  refine lv_iconst (v := nI 4) hx hb dX9_school_174 (by decide) ?_
                  refine lv_icmp_ge (tgt := 209) hx hb dX9_school_175 (by decide) (fun c_31 => ?_) (fun c_31 => ?_)
                  · have c_31 := zle (i := 4) (j := y) (by decide) (by first | omega | exact Nat.pow_pos (by decide) | exact Nat.lt_of_le_of_lt (Nat.pow_le_pow_right (show 0 < 10 by decide) (show d - i - 1 ≤ 8 by omega)) (by decide) | exact Nat.lt_of_le_of_lt (Nat.div_le_self _ _) (by omega)) c_31
                    have hE_ : 4 = y := by omega
                    subst hE_
                    have hR2 := zscR_T (i := i) hc (Or.inr rfl) hk4 hsv.1 hv101_1
                    have hE : (nI (d - i - 1) : Int32) = (nI (d - i) - 1) := hdf.2.symm
                    have hl : lv_has ls 9 [(8, .int (nI 4)), (5, .int (zss f p fr (nI c) d w (i + 1))), (7, .int (nI (zdi w d i))), (6, .int (nI (d - i) - 1)), (0, .ref M), (1, .int (nI p)), (2, .int (nI c)), (3, .int (nI d)), (4, .int (nI w))] := Eq.subst (motive := fun zz_ => lv_has ls 9 [(8, .int (nI 4)), (5, .int (zss f p fr (nI c) d w (i + 1))), (7, .int (nI (zdi w d i))), (6, .int zz_), (0, .ref M), (1, .int (nI p)), (2, .int (nI c)), (3, .int (nI d)), (4, .int (nI w))]) hE hl
                    refine lv_iinc (v := (nI (d - i) - 1) + -1) (lv' := [(6, .int ((nI (d - i) - 1) + -1)), (8, .int (nI 4)), (5, .int (zss f p fr (nI c) d w (i + 1))), (7, .int (nI (zdi w d i))), (0, .ref M), (1, .int (nI p)), (2, .int (nI c)), (3, .int (nI d)), (4, .int (nI w))]) hx hb dX9_school_209 hl (k := 3) rfl rfl (by decide) rfl (fun ls hl => ?_)
                    refine lv_goto (tgt := 101) hx hb dX9_school_212 (by decide) ?_
                    have hl : lv_has ls 9 [(6, .int ((nI (d - i) - 1) + -1)), (5, .int (zss f p fr (nI c) d w (i + 1))), (0, .ref M), (1, .int (nI p)), (2, .int (nI c)), (3, .int (nI d)), (4, .int (nI w))] := lv_sub hl [0, 2, 4, 5, 6, 7, 8] rfl
                    have e_32 : (nI (d - i) - 1) + -1 = nI (d - (i + 1)) - 1 := by first | (rw [zdn_s hi9]; done) | (with_reducible rfl) | rfl
                    have hl : lv_has ls 9 [(6, .int (nI (d - (i + 1)) - 1)), (5, .int (zss f p fr (nI c) d w (i + 1))), (0, .ref M), (1, .int (nI p)), (2, .int (nI c)), (3, .int (nI d)), (4, .int (nI w))] := Eq.subst (motive := fun zz_ => lv_has ls 9 [(6, .int zz_), (5, .int (zss f p fr (nI c) d w (i + 1))), (0, .ref M), (1, .int (nI p)), (2, .int (nI c)), (3, .int (nI d)), (4, .int (nI w))]) e_32 hl
                    have e_33 : zss f p fr (nI c) d w (i + 1) = (zss f p fr (nI c) d w (i + 1)) := by first | (rw [zdn_s hi9]; done) | (with_reducible rfl) | rfl
                    have hl : lv_has ls 9 [(6, .int (nI (d - (i + 1)) - 1)), (5, .int (zss f p fr (nI c) d w (i + 1))), (0, .ref M), (1, .int (nI p)), (2, .int (nI c)), (3, .int (nI d)), (4, .int (nI w))] := Eq.subst (motive := fun zz_ => lv_has ls 9 [(6, .int (nI (d - (i + 1)) - 1)), (5, .int zz_), (0, .ref M), (1, .int (nI p)), (2, .int (nI c)), (3, .int (nI d)), (4, .int (nI w))]) e_33 hl
                    exact ih_17 (i + 1, zscT c (zdi w d i) 4 t8) _ _ _ (by omega) ⟨hP, hD, hS, hl, (by first | omega | exact hR2 | exact fun y hy => (Nat.lt_or_ge y i).elim (hv101_2 y) (fun z => by rw [show y = i by omega]; exact hk4)), (by first | omega | exact hR2 | exact fun y hy => (Nat.lt_or_ge y i).elim (hv101_2 y) (fun z => by rw [show y = i by omega]; exact hk4)), (by first | omega | exact hR2 | exact fun y hy => (Nat.lt_or_ge y i).elim (hv101_2 y) (fun z => by rw [show y = i by omega]; exact hk4))⟩
                  · have c_31 := znle (i := 4) (j := y) (by decide) (by first | omega | exact Nat.pow_pos (by decide) | exact Nat.lt_of_le_of_lt (Nat.pow_le_pow_right (show 0 < 10 by decide) (show d - i - 1 ≤ 8 by omega)) (by decide) | exact Nat.lt_of_le_of_lt (Nat.div_le_self _ _) (by omega)) c_31
                    refine lv_iload_n hx hb dX9_school_178 rfl (lv_at hl 6 rfl) ?_
                    refine lv_iconst (v := nI 2) hx hb dX9_school_179 (by decide) ?_
                    refine lv_icmp_ne (tgt := 209) hx hb dX9_school_180 (by decide) (fun c_34 => ?_) (fun c_34 => ?_)
                    · have c_34 := zne (i := c) (j := 2) c_34
                      have hR2 := zscR_T (i := i) (y := y) hc (Or.inl c_34) hk4 hsv.1 hv101_1
                      have hE : (nI (d - i - 1) : Int32) = (nI (d - i) - 1) := hdf.2.symm
                      have hl : lv_has ls 9 [(8, .int (nI y)), (5, .int (zss f p fr (nI c) d w (i + 1))), (7, .int (nI (zdi w d i))), (6, .int (nI (d - i) - 1)), (0, .ref M), (1, .int (nI p)), (2, .int (nI c)), (3, .int (nI d)), (4, .int (nI w))] := Eq.subst (motive := fun zz_ => lv_has ls 9 [(8, .int (nI y)), (5, .int (zss f p fr (nI c) d w (i + 1))), (7, .int (nI (zdi w d i))), (6, .int zz_), (0, .ref M), (1, .int (nI p)), (2, .int (nI c)), (3, .int (nI d)), (4, .int (nI w))]) hE hl
                      refine lv_iinc (v := (nI (d - i) - 1) + -1) (lv' := [(6, .int ((nI (d - i) - 1) + -1)), (8, .int (nI y)), (5, .int (zss f p fr (nI c) d w (i + 1))), (7, .int (nI (zdi w d i))), (0, .ref M), (1, .int (nI p)), (2, .int (nI c)), (3, .int (nI d)), (4, .int (nI w))]) hx hb dX9_school_209 hl (k := 3) rfl rfl (by decide) rfl (fun ls hl => ?_)
                      refine lv_goto (tgt := 101) hx hb dX9_school_212 (by decide) ?_
                      have hl : lv_has ls 9 [(6, .int ((nI (d - i) - 1) + -1)), (5, .int (zss f p fr (nI c) d w (i + 1))), (0, .ref M), (1, .int (nI p)), (2, .int (nI c)), (3, .int (nI d)), (4, .int (nI w))] := lv_sub hl [0, 2, 4, 5, 6, 7, 8] rfl
                      have e_35 : (nI (d - i) - 1) + -1 = nI (d - (i + 1)) - 1 := by first | (rw [zdn_s hi9]; done) | (with_reducible rfl) | rfl
                      have hl : lv_has ls 9 [(6, .int (nI (d - (i + 1)) - 1)), (5, .int (zss f p fr (nI c) d w (i + 1))), (0, .ref M), (1, .int (nI p)), (2, .int (nI c)), (3, .int (nI d)), (4, .int (nI w))] := Eq.subst (motive := fun zz_ => lv_has ls 9 [(6, .int zz_), (5, .int (zss f p fr (nI c) d w (i + 1))), (0, .ref M), (1, .int (nI p)), (2, .int (nI c)), (3, .int (nI d)), (4, .int (nI w))]) e_35 hl
                      have e_36 : zss f p fr (nI c) d w (i + 1) = (zss f p fr (nI c) d w (i + 1)) := by first | (rw [zdn_s hi9]; done) | (with_reducible rfl) | rfl
                      have hl : lv_has ls 9 [(6, .int (nI (d - (i + 1)) - 1)), (5, .int (zss f p fr (nI c) d w (i + 1))), (0, .ref M), (1, .int (nI p)), (2, .int (nI c)), (3, .int (nI d)), (4, .int (nI w))] := Eq.subst (motive := fun zz_ => lv_has ls 9 [(6, .int (nI (d - (i + 1)) - 1)), (5, .int zz_), (0, .ref M), (1, .int (nI p)), (2, .int (nI c)), (3, .int (nI d)), (4, .int (nI w))]) e_36 hl
                      exact ih_17 (i + 1, zscT c (zdi w d i) y t8) _ _ _ (by omega) ⟨hP, hD, hS, hl, (by first | omega | exact hR2 | exact fun y hy => (Nat.lt_or_ge y i).elim (hv101_2 y) (fun z => by rw [show y = i by omega]; exact hk4)), (by first | omega | exact hR2 | exact fun y hy => (Nat.lt_or_ge y i).elim (hv101_2 y) (fun z => by rw [show y = i by omega]; exact hk4)), (by first | omega | exact hR2 | exact fun y hy => (Nat.lt_or_ge y i).elim (hv101_2 y) (fun z => by rw [show y = i by omega]; exact hk4))⟩
                    · have c_34 := zeq (i := c) (j := 2) (by first | omega | exact Nat.pow_pos (by decide) | exact Nat.lt_of_le_of_lt (Nat.pow_le_pow_right (show 0 < 10 by decide) (show d - i - 1 ≤ 8 by omega)) (by decide) | exact Nat.lt_of_le_of_lt (Nat.div_le_self _ _) (by omega)) (by decide) c_34
                      have hc2 := c_34
                      refine lv_aload_n hx hb dX9_school_183 rfl (lv_at hl 4 rfl) ?_
                      refine z_get (ci := 9) (v := .ref mtr) Z zin9 hP 0 rfl rfl 30 (by decide) zm707 rfl rfl dX9_school_184 ?_
                      refine lv_iload hx hb dX9_school_187 (lv_at hl 0 rfl) ?_
                      refine lv_iload hx hb dX9_school_189 (lv_at hl 0 rfl) ?_
                      refine lv_iload hx hb dX9_school_191 (lv_at hl 2 rfl) ?_
                      refine lv_icmp_ne (tgt := 201) hx hb dX9_school_193 (by decide) (fun c_37 => ?_) (fun c_37 => ?_)
                      · have c_37 := zne (i := y) (j := zdi w d i) c_37
                        refine lv_iconst (v := nI 0) hx hb dX9_school_201 (by decide) ?_
                        refine z_iast (n := 36) (f := zscT c (zdi w d i) y t8) (j := y) (x := nI 0) Z hP hD hS 2 rfl (by first | omega | exact Nat.pow_pos (by decide) | exact Nat.lt_of_le_of_lt (Nat.pow_le_pow_right (show 0 < 10 by decide) (show d - i - 1 ≤ 8 by omega)) (by decide) | exact Nat.lt_of_le_of_lt (Nat.div_le_self _ _) (by omega)) (by decide) dX9_school_202 (fun H locs hP hD hS => ?_)
                        have hP : va_P D vwCl [(M, .inr (9, [.int (nI 0), .ref mtx, .int (nI len), .int (nI pl), .int rt, .int fr, .int pr, .ref mod_, .int (nI n), .ref mne, .ref mro, .int (nI m), .int rrt, .int rfr, .int rpr, .ref mrod, .int (nI rn9), .ref mrne, .ref mrro, .int (nI rm9), .ref mrp, .ref mpg, .ref mbk, .int (nI ac), .ref mke, .ref mik, .int (nI cr), .ref mrw, .ref mrd, .long sd, .ref mtr, .ref mwo, .ref mnx, .int jr])), (mpg, .inl (cI, 36, .inl g)), (mtr, .inl (cI, 36, .inl (upd (zscT c (zdi w d i) y t8) y 0)))] H := hP
                        have hD : va_D A [(M, .inr (9, [.int (nI 0), .ref mtx, .int (nI len), .int (nI pl), .int rt, .int fr, .int pr, .ref mod_, .int (nI n), .ref mne, .ref mro, .int (nI m), .int rrt, .int rfr, .int rpr, .ref mrod, .int (nI rn9), .ref mrne, .ref mrro, .int (nI rm9), .ref mrp, .ref mpg, .ref mbk, .int (nI ac), .ref mke, .ref mik, .int (nI cr), .ref mrw, .ref mrd, .long sd, .ref mtr, .ref mwo, .ref mnx, .int jr])), (mpg, .inl (cI, 36, .inl g)), (mtr, .inl (cI, 36, .inl (upd (zscT c (zdi w d i) y t8) y 0)))] := hD
                        refine lv_iinc (v := nI (y + 1)) (lv' := [(8, .int (nI (y + 1))), (5, .int (zss f p fr (nI c) d w (i + 1))), (7, .int (nI (zdi w d i))), (6, .int (nI (d - i - 1))), (0, .ref M), (1, .int (nI p)), (2, .int (nI c)), (3, .int (nI d)), (4, .int (nI w))]) hx hb dX9_school_203 hl (k := 0) rfl (z_inc _ 1) (by decide) rfl (fun ls hl => ?_)
                        refine lv_goto (tgt := 172) hx hb dX9_school_206 (by decide) ?_
                        have e_38 : upd (zscT c (zdi w d i) y t8) y 0 = zscT c (zdi w d i) (y + 1) t8 := by first | exact zscT_y hc2 (by assumption) | exact zscT_n hc2 (by assumption)
                        have hP : va_P D vwCl [(M, .inr (9, [.int (nI 0), .ref mtx, .int (nI len), .int (nI pl), .int rt, .int fr, .int pr, .ref mod_, .int (nI n), .ref mne, .ref mro, .int (nI m), .int rrt, .int rfr, .int rpr, .ref mrod, .int (nI rn9), .ref mrne, .ref mrro, .int (nI rm9), .ref mrp, .ref mpg, .ref mbk, .int (nI ac), .ref mke, .ref mik, .int (nI cr), .ref mrw, .ref mrd, .long sd, .ref mtr, .ref mwo, .ref mnx, .int jr])), (mpg, .inl (cI, 36, .inl g)), (mtr, .inl (cI, 36, .inl (zscT c (zdi w d i) (y + 1) t8)))] H := Eq.subst (motive := fun zz_ => va_P D vwCl [(M, .inr (9, [.int (nI 0), .ref mtx, .int (nI len), .int (nI pl), .int rt, .int fr, .int pr, .ref mod_, .int (nI n), .ref mne, .ref mro, .int (nI m), .int rrt, .int rfr, .int rpr, .ref mrod, .int (nI rn9), .ref mrne, .ref mrro, .int (nI rm9), .ref mrp, .ref mpg, .ref mbk, .int (nI ac), .ref mke, .ref mik, .int (nI cr), .ref mrw, .ref mrd, .long sd, .ref mtr, .ref mwo, .ref mnx, .int jr])), (mpg, .inl (cI, 36, .inl g)), (mtr, .inl (cI, 36, .inl zz_))] H) e_38 hP
                        have hD : va_D A [(M, .inr (9, [.int (nI 0), .ref mtx, .int (nI len), .int (nI pl), .int rt, .int fr, .int pr, .ref mod_, .int (nI n), .ref mne, .ref mro, .int (nI m), .int rrt, .int rfr, .int rpr, .ref mrod, .int (nI rn9), .ref mrne, .ref mrro, .int (nI rm9), .ref mrp, .ref mpg, .ref mbk, .int (nI ac), .ref mke, .ref mik, .int (nI cr), .ref mrw, .ref mrd, .long sd, .ref mtr, .ref mwo, .ref mnx, .int jr])), (mpg, .inl (cI, 36, .inl g)), (mtr, .inl (cI, 36, .inl (zscT c (zdi w d i) (y + 1) t8)))] := zD_of hD rfl
                        have hl : lv_has ls 9 [(8, .int (nI (y + 1))), (5, .int (zss f p fr (nI c) d w (i + 1))), (7, .int (nI (zdi w d i))), (6, .int (nI (d - i - 1))), (0, .ref M), (1, .int (nI p)), (2, .int (nI c)), (3, .int (nI d)), (4, .int (nI w))] := lv_sub hl [0, 1, 2, 3, 4, 5, 6, 7, 8] rfl
                        exact ih_29 _ _ _ (by omega) ⟨hP, hD, hS, hl⟩
                      · have c_37 := zeq (i := y) (j := zdi w d i) (by first | omega | exact Nat.pow_pos (by decide) | exact Nat.lt_of_le_of_lt (Nat.pow_le_pow_right (show 0 < 10 by decide) (show d - i - 1 ≤ 8 by omega)) (by decide) | exact Nat.lt_of_le_of_lt (Nat.div_le_self _ _) (by omega)) (by first | omega | exact Nat.pow_pos (by decide) | exact Nat.lt_of_le_of_lt (Nat.pow_le_pow_right (show 0 < 10 by decide) (show d - i - 1 ≤ 8 by omega)) (by decide) | exact Nat.lt_of_le_of_lt (Nat.div_le_self _ _) (by omega)) c_37
                        refine lv_bipush (v := nI 10) hx hb dX9_school_196 (by decide) ?_
                        refine lv_goto (tgt := 202) hx hb dX9_school_198 (by decide) ?_
                        refine z_iast (n := 36) (f := zscT c (zdi w d i) y t8) (j := y) (x := nI 10) Z hP hD hS 2 rfl (by first | omega | exact Nat.pow_pos (by decide) | exact Nat.lt_of_le_of_lt (Nat.pow_le_pow_right (show 0 < 10 by decide) (show d - i - 1 ≤ 8 by omega)) (by decide) | exact Nat.lt_of_le_of_lt (Nat.div_le_self _ _) (by omega)) (by decide) dX9_school_202 (fun H locs hP hD hS => ?_)
                        have hP : va_P D vwCl [(M, .inr (9, [.int (nI 0), .ref mtx, .int (nI len), .int (nI pl), .int rt, .int fr, .int pr, .ref mod_, .int (nI n), .ref mne, .ref mro, .int (nI m), .int rrt, .int rfr, .int rpr, .ref mrod, .int (nI rn9), .ref mrne, .ref mrro, .int (nI rm9), .ref mrp, .ref mpg, .ref mbk, .int (nI ac), .ref mke, .ref mik, .int (nI cr), .ref mrw, .ref mrd, .long sd, .ref mtr, .ref mwo, .ref mnx, .int jr])), (mpg, .inl (cI, 36, .inl g)), (mtr, .inl (cI, 36, .inl (upd (zscT c (zdi w d i) y t8) y 10)))] H := hP
                        have hD : va_D A [(M, .inr (9, [.int (nI 0), .ref mtx, .int (nI len), .int (nI pl), .int rt, .int fr, .int pr, .ref mod_, .int (nI n), .ref mne, .ref mro, .int (nI m), .int rrt, .int rfr, .int rpr, .ref mrod, .int (nI rn9), .ref mrne, .ref mrro, .int (nI rm9), .ref mrp, .ref mpg, .ref mbk, .int (nI ac), .ref mke, .ref mik, .int (nI cr), .ref mrw, .ref mrd, .long sd, .ref mtr, .ref mwo, .ref mnx, .int jr])), (mpg, .inl (cI, 36, .inl g)), (mtr, .inl (cI, 36, .inl (upd (zscT c (zdi w d i) y t8) y 10)))] := hD
                        refine lv_iinc (v := nI (y + 1)) (lv' := [(8, .int (nI (y + 1))), (5, .int (zss f p fr (nI c) d w (i + 1))), (7, .int (nI (zdi w d i))), (6, .int (nI (d - i - 1))), (0, .ref M), (1, .int (nI p)), (2, .int (nI c)), (3, .int (nI d)), (4, .int (nI w))]) hx hb dX9_school_203 hl (k := 0) rfl (z_inc _ 1) (by decide) rfl (fun ls hl => ?_)
                        refine lv_goto (tgt := 172) hx hb dX9_school_206 (by decide) ?_
                        have e_39 : upd (zscT c (zdi w d i) y t8) y 10 = zscT c (zdi w d i) (y + 1) t8 := by first | exact zscT_y hc2 (by assumption) | exact zscT_n hc2 (by assumption)
                        have hP : va_P D vwCl [(M, .inr (9, [.int (nI 0), .ref mtx, .int (nI len), .int (nI pl), .int rt, .int fr, .int pr, .ref mod_, .int (nI n), .ref mne, .ref mro, .int (nI m), .int rrt, .int rfr, .int rpr, .ref mrod, .int (nI rn9), .ref mrne, .ref mrro, .int (nI rm9), .ref mrp, .ref mpg, .ref mbk, .int (nI ac), .ref mke, .ref mik, .int (nI cr), .ref mrw, .ref mrd, .long sd, .ref mtr, .ref mwo, .ref mnx, .int jr])), (mpg, .inl (cI, 36, .inl g)), (mtr, .inl (cI, 36, .inl (zscT c (zdi w d i) (y + 1) t8)))] H := Eq.subst (motive := fun zz_ => va_P D vwCl [(M, .inr (9, [.int (nI 0), .ref mtx, .int (nI len), .int (nI pl), .int rt, .int fr, .int pr, .ref mod_, .int (nI n), .ref mne, .ref mro, .int (nI m), .int rrt, .int rfr, .int rpr, .ref mrod, .int (nI rn9), .ref mrne, .ref mrro, .int (nI rm9), .ref mrp, .ref mpg, .ref mbk, .int (nI ac), .ref mke, .ref mik, .int (nI cr), .ref mrw, .ref mrd, .long sd, .ref mtr, .ref mwo, .ref mnx, .int jr])), (mpg, .inl (cI, 36, .inl g)), (mtr, .inl (cI, 36, .inl zz_))] H) e_39 hP
                        have hD : va_D A [(M, .inr (9, [.int (nI 0), .ref mtx, .int (nI len), .int (nI pl), .int rt, .int fr, .int pr, .ref mod_, .int (nI n), .ref mne, .ref mro, .int (nI m), .int rrt, .int rfr, .int rpr, .ref mrod, .int (nI rn9), .ref mrne, .ref mrro, .int (nI rm9), .ref mrp, .ref mpg, .ref mbk, .int (nI ac), .ref mke, .ref mik, .int (nI cr), .ref mrw, .ref mrd, .long sd, .ref mtr, .ref mwo, .ref mnx, .int jr])), (mpg, .inl (cI, 36, .inl g)), (mtr, .inl (cI, 36, .inl (zscT c (zdi w d i) (y + 1) t8)))] := zD_of hD rfl
                        have hl : lv_has ls 9 [(8, .int (nI (y + 1))), (5, .int (zss f p fr (nI c) d w (i + 1))), (7, .int (nI (zdi w d i))), (6, .int (nI (d - i - 1))), (0, .ref M), (1, .int (nI p)), (2, .int (nI c)), (3, .int (nI d)), (4, .int (nI w))] := lv_sub hl [0, 1, 2, 3, 4, 5, 6, 7, 8] rfl
                        exact ih_29 _ _ _ (by omega) ⟨hP, hD, hS, hl⟩
                · have c_28 := zeq (i := c) (j := 0) (by first | omega | exact Nat.pow_pos (by decide) | exact Nat.lt_of_le_of_lt (Nat.pow_le_pow_right (show 0 < 10 by decide) (show d - i - 1 ≤ 8 by omega)) (by decide) | exact Nat.lt_of_le_of_lt (Nat.div_le_self _ _) (by omega)) (by decide) c_28
                  refine lv_aload_n hx hb dX9_school_159 rfl (lv_at hl 3 rfl) ?_
                  refine z_get (ci := 9) (v := .ref mtr) Z zin9 hP 0 rfl rfl 30 (by decide) zm707 rfl rfl dX9_school_160 ?_
                  refine lv_iconst (v := nI 0) hx hb dX9_school_163 (by decide) ?_
                  refine lv_iload hx hb dX9_school_164 (lv_at hl 1 rfl) ?_
                  refine z_callSv (As := [.ref mtr, .int (nI 0), .int (nI (zdi w d i))]) (rest := []) Z hP hD hS hl.1 (zc_X9_learn l D cI cZ mtr t8 0 (zdi w d i) (by omega) (by omega)) zm829 zm830 zm39 zm831 zd_X9_learn ⟨Nat.le_of_ble_eq_true rfl, Nat.le_of_ble_eq_true rfl⟩ ⟨Nat.zero_le _, Nat.zero_le _⟩ [2] rfl (by decide) (fun _ => rfl) rfl (Nat.le_of_ble_eq_true rfl) rfl dX9_school_166 (fun u H locs h_41 hP hD hS => ?_)
                  have hP : va_P D vwCl [(M, .inr (9, [.int (nI 0), .ref mtx, .int (nI len), .int (nI pl), .int rt, .int fr, .int pr, .ref mod_, .int (nI n), .ref mne, .ref mro, .int (nI m), .int rrt, .int rfr, .int rpr, .ref mrod, .int (nI rn9), .ref mrne, .ref mrro, .int (nI rm9), .ref mrp, .ref mpg, .ref mbk, .int (nI ac), .ref mke, .ref mik, .int (nI cr), .ref mrw, .ref mrd, .long sd, .ref mtr, .ref mwo, .ref mnx, .int jr])), (mpg, .inl (cI, 36, .inl g)), (mtr, .inl (cI, 36, .inl (zml t8 0 (zdi w d i))))] H := hP
                  have hD : va_D A [(M, .inr (9, [.int (nI 0), .ref mtx, .int (nI len), .int (nI pl), .int rt, .int fr, .int pr, .ref mod_, .int (nI n), .ref mne, .ref mro, .int (nI m), .int rrt, .int rfr, .int rpr, .ref mrod, .int (nI rn9), .ref mrne, .ref mrro, .int (nI rm9), .ref mrp, .ref mpg, .ref mbk, .int (nI ac), .ref mke, .ref mik, .int (nI cr), .ref mrw, .ref mrd, .long sd, .ref mtr, .ref mwo, .ref mnx, .int jr])), (mpg, .inl (cI, 36, .inl g)), (mtr, .inl (cI, 36, .inl (zml t8 0 (zdi w d i))))] := hD
                  refine lv_iconst (v := nI 0) hx hb dX9_school_169 (by decide) ?_
                  refine lv_istore (lv' := [(8, .int (nI 0)), (5, .int (zss f p fr (nI c) d w (i + 1))), (7, .int (nI (zdi w d i))), (6, .int (nI (d - i - 1))), (0, .ref M), (1, .int (nI p)), (2, .int (nI c)), (3, .int (nI d)), (4, .int (nI w))]) hx hb dX9_school_170 hl (by decide) rfl (fun ls hl => ?_)
                  have e_43 : zml t8 0 (zdi w d i) = zscT c (zdi w d i) 0 t8 := by first | exact zscT_0 (by assumption) | exact zscT_1 (by assumption)
                  have hP : va_P D vwCl [(M, .inr (9, [.int (nI 0), .ref mtx, .int (nI len), .int (nI pl), .int rt, .int fr, .int pr, .ref mod_, .int (nI n), .ref mne, .ref mro, .int (nI m), .int rrt, .int rfr, .int rpr, .ref mrod, .int (nI rn9), .ref mrne, .ref mrro, .int (nI rm9), .ref mrp, .ref mpg, .ref mbk, .int (nI ac), .ref mke, .ref mik, .int (nI cr), .ref mrw, .ref mrd, .long sd, .ref mtr, .ref mwo, .ref mnx, .int jr])), (mpg, .inl (cI, 36, .inl g)), (mtr, .inl (cI, 36, .inl (zscT c (zdi w d i) 0 t8)))] H := Eq.subst (motive := fun zz_ => va_P D vwCl [(M, .inr (9, [.int (nI 0), .ref mtx, .int (nI len), .int (nI pl), .int rt, .int fr, .int pr, .ref mod_, .int (nI n), .ref mne, .ref mro, .int (nI m), .int rrt, .int rfr, .int rpr, .ref mrod, .int (nI rn9), .ref mrne, .ref mrro, .int (nI rm9), .ref mrp, .ref mpg, .ref mbk, .int (nI ac), .ref mke, .ref mik, .int (nI cr), .ref mrw, .ref mrd, .long sd, .ref mtr, .ref mwo, .ref mnx, .int jr])), (mpg, .inl (cI, 36, .inl g)), (mtr, .inl (cI, 36, .inl zz_))] H) e_43 hP
                  have hD : va_D A [(M, .inr (9, [.int (nI 0), .ref mtx, .int (nI len), .int (nI pl), .int rt, .int fr, .int pr, .ref mod_, .int (nI n), .ref mne, .ref mro, .int (nI m), .int rrt, .int rfr, .int rpr, .ref mrod, .int (nI rn9), .ref mrne, .ref mrro, .int (nI rm9), .ref mrp, .ref mpg, .ref mbk, .int (nI ac), .ref mke, .ref mik, .int (nI cr), .ref mrw, .ref mrd, .long sd, .ref mtr, .ref mwo, .ref mnx, .int jr])), (mpg, .inl (cI, 36, .inl g)), (mtr, .inl (cI, 36, .inl (zscT c (zdi w d i) 0 t8)))] := zD_of hD rfl
                  have hl : lv_has ls 9 [(8, .int (nI 0)), (5, .int (zss f p fr (nI c) d w (i + 1))), (7, .int (nI (zdi w d i))), (6, .int (nI (d - i - 1))), (0, .ref M), (1, .int (nI p)), (2, .int (nI c)), (3, .int (nI d)), (4, .int (nI w))] := lv_sub hl [0, 1, 2, 3, 4, 5, 6, 7, 8] rfl
                  refine z_loop (fun y H locs ls => va_P D vwCl [(M, .inr (9, [.int (nI 0), .ref mtx, .int (nI len), .int (nI pl), .int rt, .int fr, .int pr, .ref mod_, .int (nI n), .ref mne, .ref mro, .int (nI m), .int rrt, .int rfr, .int rpr, .ref mrod, .int (nI rn9), .ref mrne, .ref mrro, .int (nI rm9), .ref mrp, .ref mpg, .ref mbk, .int (nI ac), .ref mke, .ref mik, .int (nI cr), .ref mrw, .ref mrd, .long sd, .ref mtr, .ref mwo, .ref mnx, .int jr])), (mpg, .inl (cI, 36, .inl g)), (mtr, .inl (cI, 36, .inl (zscT c (zdi w d i) y t8)))] H ∧ va_D A [(M, .inr (9, [.int (nI 0), .ref mtx, .int (nI len), .int (nI pl), .int rt, .int fr, .int pr, .ref mod_, .int (nI n), .ref mne, .ref mro, .int (nI m), .int rrt, .int rfr, .int rpr, .ref mrod, .int (nI rn9), .ref mrne, .ref mrro, .int (nI rm9), .ref mrp, .ref mpg, .ref mbk, .int (nI ac), .ref mke, .ref mik, .int (nI cr), .ref mrw, .ref mrd, .long sd, .ref mtr, .ref mwo, .ref mnx, .int jr])), (mpg, .inl (cI, 36, .inl g)), (mtr, .inl (cI, 36, .inl (zscT c (zdi w d i) y t8)))] ∧ va_S A sS.heap H locs ∧ lv_has ls 9 [(8, .int (nI y)), (5, .int (zss f p fr (nI c) d w (i + 1))), (7, .int (nI (zdi w d i))), (6, .int (nI (d - i - 1))), (0, .ref M), (1, .int (nI p)), (2, .int (nI c)), (3, .int (nI d)), (4, .int (nI w))]) (4) (lo := 0) (by omega) ⟨hP, hD, hS, hl⟩ (fun y hi_y ih_42 H locs ls hI => ?_)
                  obtain ⟨hP, hD, hS, hl⟩ := hI
                  have hP : va_P D vwCl [(M, .inr (9, [.int (nI 0), .ref mtx, .int (nI len), .int (nI pl), .int rt, .int fr, .int pr, .ref mod_, .int (nI n), .ref mne, .ref mro, .int (nI m), .int rrt, .int rfr, .int rpr, .ref mrod, .int (nI rn9), .ref mrne, .ref mrro, .int (nI rm9), .ref mrp, .ref mpg, .ref mbk, .int (nI ac), .ref mke, .ref mik, .int (nI cr), .ref mrw, .ref mrd, .long sd, .ref mtr, .ref mwo, .ref mnx, .int jr])), (mpg, .inl (cI, 36, .inl g)), (mtr, .inl (cI, 36, .inl (zscT c (zdi w d i) y t8)))] H := hP
                  have hD : va_D A [(M, .inr (9, [.int (nI 0), .ref mtx, .int (nI len), .int (nI pl), .int rt, .int fr, .int pr, .ref mod_, .int (nI n), .ref mne, .ref mro, .int (nI m), .int rrt, .int rfr, .int rpr, .ref mrod, .int (nI rn9), .ref mrne, .ref mrro, .int (nI rm9), .ref mrp, .ref mpg, .ref mbk, .int (nI ac), .ref mke, .ref mik, .int (nI cr), .ref mrw, .ref mrd, .long sd, .ref mtr, .ref mwo, .ref mnx, .int jr])), (mpg, .inl (cI, 36, .inl g)), (mtr, .inl (cI, 36, .inl (zscT c (zdi w d i) y t8)))] := hD
                  have hl : lv_has ls 9 [(8, .int (nI y)), (5, .int (zss f p fr (nI c) d w (i + 1))), (7, .int (nI (zdi w d i))), (6, .int (nI (d - i - 1))), (0, .ref M), (1, .int (nI p)), (2, .int (nI c)), (3, .int (nI d)), (4, .int (nI w))] := hl
                  refine lv_iload hx hb dX9_school_172 (lv_at hl 0 rfl) ?_
                  refine lv_iconst (v := nI 4) hx hb dX9_school_174 (by decide) ?_
                  refine lv_icmp_ge (tgt := 209) hx hb dX9_school_175 (by decide) (fun c_44 => ?_) (fun c_44 => ?_)
                  · have c_44 := zle (i := 4) (j := y) (by decide) (by first | omega | exact Nat.pow_pos (by decide) | exact Nat.lt_of_le_of_lt (Nat.pow_le_pow_right (show 0 < 10 by decide) (show d - i - 1 ≤ 8 by omega)) (by decide) | exact Nat.lt_of_le_of_lt (Nat.div_le_self _ _) (by omega)) c_44
                    have hE_ : 4 = y := by omega
                    subst hE_
                    have hR2 := zscR_T (i := i) hc (Or.inr rfl) hk4 hsv.1 hv101_1
                    have hE : (nI (d - i - 1) : Int32) = (nI (d - i) - 1) := hdf.2.symm
                    have hl : lv_has ls 9 [(8, .int (nI 4)), (5, .int (zss f p fr (nI c) d w (i + 1))), (7, .int (nI (zdi w d i))), (6, .int (nI (d - i) - 1)), (0, .ref M), (1, .int (nI p)), (2, .int (nI c)), (3, .int (nI d)), (4, .int (nI w))] := Eq.subst (motive := fun zz_ => lv_has ls 9 [(8, .int (nI 4)), (5, .int (zss f p fr (nI c) d w (i + 1))), (7, .int (nI (zdi w d i))), (6, .int zz_), (0, .ref M), (1, .int (nI p)), (2, .int (nI c)), (3, .int (nI d)), (4, .int (nI w))]) hE hl
                    refine lv_iinc (v := (nI (d - i) - 1) + -1) (lv' := [(6, .int ((nI (d - i) - 1) + -1)), (8, .int (nI 4)), (5, .int (zss f p fr (nI c) d w (i + 1))), (7, .int (nI (zdi w d i))), (0, .ref M), (1, .int (nI p)), (2, .int (nI c)), (3, .int (nI d)), (4, .int (nI w))]) hx hb dX9_school_209 hl (k := 3) rfl rfl (by decide) rfl (fun ls hl => ?_)
                    refine lv_goto (tgt := 101) hx hb dX9_school_212 (by decide) ?_
                    have hl : lv_has ls 9 [(6, .int ((nI (d - i) - 1) + -1)), (5, .int (zss f p fr (nI c) d w (i + 1))), (0, .ref M), (1, .int (nI p)), (2, .int (nI c)), (3, .int (nI d)), (4, .int (nI w))] := lv_sub hl [0, 2, 4, 5, 6, 7, 8] rfl
                    have e_45 : (nI (d - i) - 1) + -1 = nI (d - (i + 1)) - 1 := by first | (rw [zdn_s hi9]; done) | (with_reducible rfl) | rfl
                    have hl : lv_has ls 9 [(6, .int (nI (d - (i + 1)) - 1)), (5, .int (zss f p fr (nI c) d w (i + 1))), (0, .ref M), (1, .int (nI p)), (2, .int (nI c)), (3, .int (nI d)), (4, .int (nI w))] := Eq.subst (motive := fun zz_ => lv_has ls 9 [(6, .int zz_), (5, .int (zss f p fr (nI c) d w (i + 1))), (0, .ref M), (1, .int (nI p)), (2, .int (nI c)), (3, .int (nI d)), (4, .int (nI w))]) e_45 hl
                    have e_46 : zss f p fr (nI c) d w (i + 1) = (zss f p fr (nI c) d w (i + 1)) := by first | (rw [zdn_s hi9]; done) | (with_reducible rfl) | rfl
                    have hl : lv_has ls 9 [(6, .int (nI (d - (i + 1)) - 1)), (5, .int (zss f p fr (nI c) d w (i + 1))), (0, .ref M), (1, .int (nI p)), (2, .int (nI c)), (3, .int (nI d)), (4, .int (nI w))] := Eq.subst (motive := fun zz_ => lv_has ls 9 [(6, .int (nI (d - (i + 1)) - 1)), (5, .int zz_), (0, .ref M), (1, .int (nI p)), (2, .int (nI c)), (3, .int (nI d)), (4, .int (nI w))]) e_46 hl
                    exact ih_17 (i + 1, zscT c (zdi w d i) 4 t8) _ _ _ (by omega) ⟨hP, hD, hS, hl, (by first | omega | exact hR2 | exact fun y hy => (Nat.lt_or_ge y i).elim (hv101_2 y) (fun z => by rw [show y = i by omega]; exact hk4)), (by first | omega | exact hR2 | exact fun y hy => (Nat.lt_or_ge y i).elim (hv101_2 y) (fun z => by rw [show y = i by omega]; exact hk4)), (by first | omega | exact hR2 | exact fun y hy => (Nat.lt_or_ge y i).elim (hv101_2 y) (fun z => by rw [show y = i by omega]; exact hk4))⟩
                  · have c_44 := znle (i := 4) (j := y) (by decide) (by first | omega | exact Nat.pow_pos (by decide) | exact Nat.lt_of_le_of_lt (Nat.pow_le_pow_right (show 0 < 10 by decide) (show d - i - 1 ≤ 8 by omega)) (by decide) | exact Nat.lt_of_le_of_lt (Nat.div_le_self _ _) (by omega)) c_44
                    refine lv_iload_n hx hb dX9_school_178 rfl (lv_at hl 6 rfl) ?_
                    refine lv_iconst (v := nI 2) hx hb dX9_school_179 (by decide) ?_
                    refine lv_icmp_ne (tgt := 209) hx hb dX9_school_180 (by decide) (fun c_47 => ?_) (fun c_47 => ?_)
                    · have c_47 := zne (i := c) (j := 2) c_47
                      have hR2 := zscR_T (i := i) (y := y) hc (Or.inl c_47) hk4 hsv.1 hv101_1
                      have hE : (nI (d - i - 1) : Int32) = (nI (d - i) - 1) := hdf.2.symm
                      have hl : lv_has ls 9 [(8, .int (nI y)), (5, .int (zss f p fr (nI c) d w (i + 1))), (7, .int (nI (zdi w d i))), (6, .int (nI (d - i) - 1)), (0, .ref M), (1, .int (nI p)), (2, .int (nI c)), (3, .int (nI d)), (4, .int (nI w))] := Eq.subst (motive := fun zz_ => lv_has ls 9 [(8, .int (nI y)), (5, .int (zss f p fr (nI c) d w (i + 1))), (7, .int (nI (zdi w d i))), (6, .int zz_), (0, .ref M), (1, .int (nI p)), (2, .int (nI c)), (3, .int (nI d)), (4, .int (nI w))]) hE hl
                      refine lv_iinc (v := (nI (d - i) - 1) + -1) (lv' := [(6, .int ((nI (d - i) - 1) + -1)), (8, .int (nI y)), (5, .int (zss f p fr (nI c) d w (i + 1))), (7, .int (nI (zdi w d i))), (0, .ref M), (1, .int (nI p)), (2, .int (nI c)), (3, .int (nI d)), (4, .int (nI w))]) hx hb dX9_school_209 hl (k := 3) rfl rfl (by decide) rfl (fun ls hl => ?_)
                      refine lv_goto (tgt := 101) hx hb dX9_school_212 (by decide) ?_
                      have hl : lv_has ls 9 [(6, .int ((nI (d - i) - 1) + -1)), (5, .int (zss f p fr (nI c) d w (i + 1))), (0, .ref M), (1, .int (nI p)), (2, .int (nI c)), (3, .int (nI d)), (4, .int (nI w))] := lv_sub hl [0, 2, 4, 5, 6, 7, 8] rfl
                      have e_48 : (nI (d - i) - 1) + -1 = nI (d - (i + 1)) - 1 := by first | (rw [zdn_s hi9]; done) | (with_reducible rfl) | rfl
                      have hl : lv_has ls 9 [(6, .int (nI (d - (i + 1)) - 1)), (5, .int (zss f p fr (nI c) d w (i + 1))), (0, .ref M), (1, .int (nI p)), (2, .int (nI c)), (3, .int (nI d)), (4, .int (nI w))] := Eq.subst (motive := fun zz_ => lv_has ls 9 [(6, .int zz_), (5, .int (zss f p fr (nI c) d w (i + 1))), (0, .ref M), (1, .int (nI p)), (2, .int (nI c)), (3, .int (nI d)), (4, .int (nI w))]) e_48 hl
                      have e_49 : zss f p fr (nI c) d w (i + 1) = (zss f p fr (nI c) d w (i + 1)) := by first | (rw [zdn_s hi9]; done) | (with_reducible rfl) | rfl
                      have hl : lv_has ls 9 [(6, .int (nI (d - (i + 1)) - 1)), (5, .int (zss f p fr (nI c) d w (i + 1))), (0, .ref M), (1, .int (nI p)), (2, .int (nI c)), (3, .int (nI d)), (4, .int (nI w))] := Eq.subst (motive := fun zz_ => lv_has ls 9 [(6, .int (nI (d - (i + 1)) - 1)), (5, .int zz_), (0, .ref M), (1, .int (nI p)), (2, .int (nI c)), (3, .int (nI d)), (4, .int (nI w))]) e_49 hl
                      exact ih_17 (i + 1, zscT c (zdi w d i) y t8) _ _ _ (by omega) ⟨hP, hD, hS, hl, (by first | omega | exact hR2 | exact fun y hy => (Nat.lt_or_ge y i).elim (hv101_2 y) (fun z => by rw [show y = i by omega]; exact hk4)), (by first | omega | exact hR2 | exact fun y hy => (Nat.lt_or_ge y i).elim (hv101_2 y) (fun z => by rw [show y = i by omega]; exact hk4)), (by first | omega | exact hR2 | exact fun y hy => (Nat.lt_or_ge y i).elim (hv101_2 y) (fun z => by rw [show y = i by omega]; exact hk4))⟩
                    · have c_47 := zeq (i := c) (j := 2) (by first | omega | exact Nat.pow_pos (by decide) | exact Nat.lt_of_le_of_lt (Nat.pow_le_pow_right (show 0 < 10 by decide) (show d - i - 1 ≤ 8 by omega)) (by decide) | exact Nat.lt_of_le_of_lt (Nat.div_le_self _ _) (by omega)) (by decide) c_47
                      have hc2 := c_47
                      refine lv_aload_n hx hb dX9_school_183 rfl (lv_at hl 4 rfl) ?_
                      refine z_get (ci := 9) (v := .ref mtr) Z zin9 hP 0 rfl rfl 30 (by decide) zm707 rfl rfl dX9_school_184 ?_
                      refine lv_iload hx hb dX9_school_187 (lv_at hl 0 rfl) ?_
                      refine lv_iload hx hb dX9_school_189 (lv_at hl 0 rfl) ?_
                      refine lv_iload hx hb dX9_school_191 (lv_at hl 2 rfl) ?_
                      refine lv_icmp_ne (tgt := 201) hx hb dX9_school_193 (by decide) (fun c_50 => ?_) (fun c_50 => ?_)
                      · have c_50 := zne (i := y) (j := zdi w d i) c_50
                        refine lv_iconst (v := nI 0) hx hb dX9_school_201 (by decide) ?_
                        refine z_iast (n := 36) (f := zscT c (zdi w d i) y t8) (j := y) (x := nI 0) Z hP hD hS 2 rfl (by first | omega | exact Nat.pow_pos (by decide) | exact Nat.lt_of_le_of_lt (Nat.pow_le_pow_right (show 0 < 10 by decide) (show d - i - 1 ≤ 8 by omega)) (by decide) | exact Nat.lt_of_le_of_lt (Nat.div_le_self _ _) (by omega)) (by decide) dX9_school_202 (fun H locs hP hD hS => ?_)
                        have hP : va_P D vwCl [(M, .inr (9, [.int (nI 0), .ref mtx, .int (nI len), .int (nI pl), .int rt, .int fr, .int pr, .ref mod_, .int (nI n), .ref mne, .ref mro, .int (nI m), .int rrt, .int rfr, .int rpr, .ref mrod, .int (nI rn9), .ref mrne, .ref mrro, .int (nI rm9), .ref mrp, .ref mpg, .ref mbk, .int (nI ac), .ref mke, .ref mik, .int (nI cr), .ref mrw, .ref mrd, .long sd, .ref mtr, .ref mwo, .ref mnx, .int jr])), (mpg, .inl (cI, 36, .inl g)), (mtr, .inl (cI, 36, .inl (upd (zscT c (zdi w d i) y t8) y 0)))] H := hP
                        have hD : va_D A [(M, .inr (9, [.int (nI 0), .ref mtx, .int (nI len), .int (nI pl), .int rt, .int fr, .int pr, .ref mod_, .int (nI n), .ref mne, .ref mro, .int (nI m), .int rrt, .int rfr, .int rpr, .ref mrod, .int (nI rn9), .ref mrne, .ref mrro, .int (nI rm9), .ref mrp, .ref mpg, .ref mbk, .int (nI ac), .ref mke, .ref mik, .int (nI cr), .ref mrw, .ref mrd, .long sd, .ref mtr, .ref mwo, .ref mnx, .int jr])), (mpg, .inl (cI, 36, .inl g)), (mtr, .inl (cI, 36, .inl (upd (zscT c (zdi w d i) y t8) y 0)))] := hD
                        refine lv_iinc (v := nI (y + 1)) (lv' := [(8, .int (nI (y + 1))), (5, .int (zss f p fr (nI c) d w (i + 1))), (7, .int (nI (zdi w d i))), (6, .int (nI (d - i - 1))), (0, .ref M), (1, .int (nI p)), (2, .int (nI c)), (3, .int (nI d)), (4, .int (nI w))]) hx hb dX9_school_203 hl (k := 0) rfl (z_inc _ 1) (by decide) rfl (fun ls hl => ?_)
                        refine lv_goto (tgt := 172) hx hb dX9_school_206 (by decide) ?_
                        have e_51 : upd (zscT c (zdi w d i) y t8) y 0 = zscT c (zdi w d i) (y + 1) t8 := by first | exact zscT_y hc2 (by assumption) | exact zscT_n hc2 (by assumption)
                        have hP : va_P D vwCl [(M, .inr (9, [.int (nI 0), .ref mtx, .int (nI len), .int (nI pl), .int rt, .int fr, .int pr, .ref mod_, .int (nI n), .ref mne, .ref mro, .int (nI m), .int rrt, .int rfr, .int rpr, .ref mrod, .int (nI rn9), .ref mrne, .ref mrro, .int (nI rm9), .ref mrp, .ref mpg, .ref mbk, .int (nI ac), .ref mke, .ref mik, .int (nI cr), .ref mrw, .ref mrd, .long sd, .ref mtr, .ref mwo, .ref mnx, .int jr])), (mpg, .inl (cI, 36, .inl g)), (mtr, .inl (cI, 36, .inl (zscT c (zdi w d i) (y + 1) t8)))] H := Eq.subst (motive := fun zz_ => va_P D vwCl [(M, .inr (9, [.int (nI 0), .ref mtx, .int (nI len), .int (nI pl), .int rt, .int fr, .int pr, .ref mod_, .int (nI n), .ref mne, .ref mro, .int (nI m), .int rrt, .int rfr, .int rpr, .ref mrod, .int (nI rn9), .ref mrne, .ref mrro, .int (nI rm9), .ref mrp, .ref mpg, .ref mbk, .int (nI ac), .ref mke, .ref mik, .int (nI cr), .ref mrw, .ref mrd, .long sd, .ref mtr, .ref mwo, .ref mnx, .int jr])), (mpg, .inl (cI, 36, .inl g)), (mtr, .inl (cI, 36, .inl zz_))] H) e_51 hP
                        have hD : va_D A [(M, .inr (9, [.int (nI 0), .ref mtx, .int (nI len), .int (nI pl), .int rt, .int fr, .int pr, .ref mod_, .int (nI n), .ref mne, .ref mro, .int (nI m), .int rrt, .int rfr, .int rpr, .ref mrod, .int (nI rn9), .ref mrne, .ref mrro, .int (nI rm9), .ref mrp, .ref mpg, .ref mbk, .int (nI ac), .ref mke, .ref mik, .int (nI cr), .ref mrw, .ref mrd, .long sd, .ref mtr, .ref mwo, .ref mnx, .int jr])), (mpg, .inl (cI, 36, .inl g)), (mtr, .inl (cI, 36, .inl (zscT c (zdi w d i) (y + 1) t8)))] := zD_of hD rfl
                        have hl : lv_has ls 9 [(8, .int (nI (y + 1))), (5, .int (zss f p fr (nI c) d w (i + 1))), (7, .int (nI (zdi w d i))), (6, .int (nI (d - i - 1))), (0, .ref M), (1, .int (nI p)), (2, .int (nI c)), (3, .int (nI d)), (4, .int (nI w))] := lv_sub hl [0, 1, 2, 3, 4, 5, 6, 7, 8] rfl
                        exact ih_42 _ _ _ (by omega) ⟨hP, hD, hS, hl⟩
                      · have c_50 := zeq (i := y) (j := zdi w d i) (by first | omega | exact Nat.pow_pos (by decide) | exact Nat.lt_of_le_of_lt (Nat.pow_le_pow_right (show 0 < 10 by decide) (show d - i - 1 ≤ 8 by omega)) (by decide) | exact Nat.lt_of_le_of_lt (Nat.div_le_self _ _) (by omega)) (by first | omega | exact Nat.pow_pos (by decide) | exact Nat.lt_of_le_of_lt (Nat.pow_le_pow_right (show 0 < 10 by decide) (show d - i - 1 ≤ 8 by omega)) (by decide) | exact Nat.lt_of_le_of_lt (Nat.div_le_self _ _) (by omega)) c_50
                        refine lv_bipush (v := nI 10) hx hb dX9_school_196 (by decide) ?_
                        refine lv_goto (tgt := 202) hx hb dX9_school_198 (by decide) ?_
                        refine z_iast (n := 36) (f := zscT c (zdi w d i) y t8) (j := y) (x := nI 10) Z hP hD hS 2 rfl (by first | omega | exact Nat.pow_pos (by decide) | exact Nat.lt_of_le_of_lt (Nat.pow_le_pow_right (show 0 < 10 by decide) (show d - i - 1 ≤ 8 by omega)) (by decide) | exact Nat.lt_of_le_of_lt (Nat.div_le_self _ _) (by omega)) (by decide) dX9_school_202 (fun H locs hP hD hS => ?_)
                        have hP : va_P D vwCl [(M, .inr (9, [.int (nI 0), .ref mtx, .int (nI len), .int (nI pl), .int rt, .int fr, .int pr, .ref mod_, .int (nI n), .ref mne, .ref mro, .int (nI m), .int rrt, .int rfr, .int rpr, .ref mrod, .int (nI rn9), .ref mrne, .ref mrro, .int (nI rm9), .ref mrp, .ref mpg, .ref mbk, .int (nI ac), .ref mke, .ref mik, .int (nI cr), .ref mrw, .ref mrd, .long sd, .ref mtr, .ref mwo, .ref mnx, .int jr])), (mpg, .inl (cI, 36, .inl g)), (mtr, .inl (cI, 36, .inl (upd (zscT c (zdi w d i) y t8) y 10)))] H := hP
                        have hD : va_D A [(M, .inr (9, [.int (nI 0), .ref mtx, .int (nI len), .int (nI pl), .int rt, .int fr, .int pr, .ref mod_, .int (nI n), .ref mne, .ref mro, .int (nI m), .int rrt, .int rfr, .int rpr, .ref mrod, .int (nI rn9), .ref mrne, .ref mrro, .int (nI rm9), .ref mrp, .ref mpg, .ref mbk, .int (nI ac), .ref mke, .ref mik, .int (nI cr), .ref mrw, .ref mrd, .long sd, .ref mtr, .ref mwo, .ref mnx, .int jr])), (mpg, .inl (cI, 36, .inl g)), (mtr, .inl (cI, 36, .inl (upd (zscT c (zdi w d i) y t8) y 10)))] := hD
                        refine lv_iinc (v := nI (y + 1)) (lv' := [(8, .int (nI (y + 1))), (5, .int (zss f p fr (nI c) d w (i + 1))), (7, .int (nI (zdi w d i))), (6, .int (nI (d - i - 1))), (0, .ref M), (1, .int (nI p)), (2, .int (nI c)), (3, .int (nI d)), (4, .int (nI w))]) hx hb dX9_school_203 hl (k := 0) rfl (z_inc _ 1) (by decide) rfl (fun ls hl => ?_)
                        refine lv_goto (tgt := 172) hx hb dX9_school_206 (by decide) ?_
                        have e_52 : upd (zscT c (zdi w d i) y t8) y 10 = zscT c (zdi w d i) (y + 1) t8 := by first | exact zscT_y hc2 (by assumption) | exact zscT_n hc2 (by assumption)
                        have hP : va_P D vwCl [(M, .inr (9, [.int (nI 0), .ref mtx, .int (nI len), .int (nI pl), .int rt, .int fr, .int pr, .ref mod_, .int (nI n), .ref mne, .ref mro, .int (nI m), .int rrt, .int rfr, .int rpr, .ref mrod, .int (nI rn9), .ref mrne, .ref mrro, .int (nI rm9), .ref mrp, .ref mpg, .ref mbk, .int (nI ac), .ref mke, .ref mik, .int (nI cr), .ref mrw, .ref mrd, .long sd, .ref mtr, .ref mwo, .ref mnx, .int jr])), (mpg, .inl (cI, 36, .inl g)), (mtr, .inl (cI, 36, .inl (zscT c (zdi w d i) (y + 1) t8)))] H := Eq.subst (motive := fun zz_ => va_P D vwCl [(M, .inr (9, [.int (nI 0), .ref mtx, .int (nI len), .int (nI pl), .int rt, .int fr, .int pr, .ref mod_, .int (nI n), .ref mne, .ref mro, .int (nI m), .int rrt, .int rfr, .int rpr, .ref mrod, .int (nI rn9), .ref mrne, .ref mrro, .int (nI rm9), .ref mrp, .ref mpg, .ref mbk, .int (nI ac), .ref mke, .ref mik, .int (nI cr), .ref mrw, .ref mrd, .long sd, .ref mtr, .ref mwo, .ref mnx, .int jr])), (mpg, .inl (cI, 36, .inl g)), (mtr, .inl (cI, 36, .inl zz_))] H) e_52 hP
                        have hD : va_D A [(M, .inr (9, [.int (nI 0), .ref mtx, .int (nI len), .int (nI pl), .int rt, .int fr, .int pr, .ref mod_, .int (nI n), .ref mne, .ref mro, .int (nI m), .int rrt, .int rfr, .int rpr, .ref mrod, .int (nI rn9), .ref mrne, .ref mrro, .int (nI rm9), .ref mrp, .ref mpg, .ref mbk, .int (nI ac), .ref mke, .ref mik, .int (nI cr), .ref mrw, .ref mrd, .long sd, .ref mtr, .ref mwo, .ref mnx, .int jr])), (mpg, .inl (cI, 36, .inl g)), (mtr, .inl (cI, 36, .inl (zscT c (zdi w d i) (y + 1) t8)))] := zD_of hD rfl
                        have hl : lv_has ls 9 [(8, .int (nI (y + 1))), (5, .int (zss f p fr (nI c) d w (i + 1))), (7, .int (nI (zdi w d i))), (6, .int (nI (d - i - 1))), (0, .ref M), (1, .int (nI p)), (2, .int (nI c)), (3, .int (nI d)), (4, .int (nI w))] := lv_sub hl [0, 1, 2, 3, 4, 5, 6, 7, 8] rfl
                        exact ih_42 _ _ _ (by omega) ⟨hP, hD, hS, hl⟩
              · have c_25 := zb1 c_25
                have hk5 : ¬ zdi w d i < 4 := fun z => c_25 (zkind_nat z)
                refine lv_bipush (v := -2) hx hb dX9_school_127 (by decide) ?_
                exact z_iret Z (t8) (by first | rw [zPa_n (by assumption)] | (rw [zPa_y hp hn]; first | rw [zRa_n hrgn] | (rw [zRa_y hc0 hc (by decide)]; first | rw [zRa_n hrgn] | (rw [zRa_y hd0 hd (by decide)]; first | (rw [zsco_x hzi]; done) | (rw [zsco_n hd hw hi9 hk5]; done) | (rw [zsco_y hd hw hv101_2]; done)))) | rfl) hP hS dX9_school_129
          · have c_16 := znle (i := 4) (j := j) (by decide) (by first | omega | exact Nat.pow_pos (by decide) | exact Nat.lt_of_le_of_lt (Nat.pow_le_pow_right (show 0 < 10 by decide) (show d - i - 1 ≤ 8 by omega)) (by decide) | exact Nat.lt_of_le_of_lt (Nat.div_le_self _ _) (by omega)) c_16
            refine lv_aload_n hx hb dX9_school_68 rfl (lv_at hl 1 rfl) ?_
            refine z_get (ci := 9) (v := .ref mtr) Z zin9 hP 0 rfl rfl 30 (by decide) zm707 rfl rfl dX9_school_69 ?_
            refine lv_iload hx hb dX9_school_72 (lv_at hl 0 rfl) ?_
            refine lv_aload_n hx hb dX9_school_74 rfl (lv_at hl 1 rfl) ?_
            refine z_get (ci := 9) (v := .ref mpg) Z zin9 hP 0 rfl rfl 21 (by decide) zm698 rfl rfl dX9_school_75 ?_
            refine lv_bipush (v := nI 7) hx hb dX9_school_78 (by decide) ?_
            refine lv_iload_n hx hb dX9_school_80 rfl (lv_at hl 2 rfl) ?_
            refine lv_imul hx hb dX9_school_81 ?_
            refine z_top (y := nI (7 * p)) (z_mul _ _) ?_
            refine lv_iload hx hb dX9_school_82 (lv_at hl 0 rfl) ?_
            refine lv_iadd hx hb dX9_school_84 ?_
            refine z_top (y := nI (7 * p + j)) (z_add _ _) ?_
            refine z_iald (n := 36) (f := g) (j := 7 * p + j) Z hP 1 rfl (by first | omega | exact Nat.pow_pos (by decide) | exact Nat.lt_of_le_of_lt (Nat.pow_le_pow_right (show 0 < 10 by decide) (show d - i - 1 ≤ 8 by omega)) (by decide) | exact Nat.lt_of_le_of_lt (Nat.div_le_self _ _) (by omega)) (by decide) dX9_school_85 ?_
            refine z_top (y := f (p * 4 + j)) ((hpg.1 p hp).1 j (by omega)) ?_
            refine z_iast (n := 36) (f := t9) (j := j) (x := f (p * 4 + j)) Z hP hD hS 2 rfl (by first | omega | exact Nat.pow_pos (by decide) | exact Nat.lt_of_le_of_lt (Nat.pow_le_pow_right (show 0 < 10 by decide) (show d - i - 1 ≤ 8 by omega)) (by decide) | exact Nat.lt_of_le_of_lt (Nat.div_le_self _ _) (by omega)) (by decide) dX9_school_86 (fun H locs hP hD hS => ?_)
            have hP : va_P D vwCl [(M, .inr (9, [.int (nI 0), .ref mtx, .int (nI len), .int (nI pl), .int rt, .int fr, .int pr, .ref mod_, .int (nI n), .ref mne, .ref mro, .int (nI m), .int rrt, .int rfr, .int rpr, .ref mrod, .int (nI rn9), .ref mrne, .ref mrro, .int (nI rm9), .ref mrp, .ref mpg, .ref mbk, .int (nI ac), .ref mke, .ref mik, .int (nI cr), .ref mrw, .ref mrd, .long sd, .ref mtr, .ref mwo, .ref mnx, .int jr])), (mpg, .inl (cI, 36, .inl g)), (mtr, .inl (cI, 36, .inl (upd t9 j (f (p * 4 + j)))))] H := hP
            have hD : va_D A [(M, .inr (9, [.int (nI 0), .ref mtx, .int (nI len), .int (nI pl), .int rt, .int fr, .int pr, .ref mod_, .int (nI n), .ref mne, .ref mro, .int (nI m), .int rrt, .int rfr, .int rpr, .ref mrod, .int (nI rn9), .ref mrne, .ref mrro, .int (nI rm9), .ref mrp, .ref mpg, .ref mbk, .int (nI ac), .ref mke, .ref mik, .int (nI cr), .ref mrw, .ref mrd, .long sd, .ref mtr, .ref mwo, .ref mnx, .int jr])), (mpg, .inl (cI, 36, .inl g)), (mtr, .inl (cI, 36, .inl (upd t9 j (f (p * 4 + j)))))] := hD
            refine lv_iinc (v := nI (j + 1)) (lv' := [(5, .int (nI (j + 1))), (0, .ref M), (1, .int (nI p)), (2, .int (nI c)), (3, .int (nI d)), (4, .int (nI w))]) hx hb dX9_school_87 hl (k := 0) rfl (z_inc _ 1) (by decide) rfl (fun ls hl => ?_)
            refine lv_goto (tgt := 62) hx hb dX9_school_90 (by decide) ?_
            have hl : lv_has ls 9 [(5, .int (nI (j + 1))), (0, .ref M), (1, .int (nI p)), (2, .int (nI c)), (3, .int (nI d)), (4, .int (nI w))] := lv_sub hl [0, 1, 2, 3, 4, 5] rfl
            exact ih_15 (j + 1, upd t9 j (f (p * 4 + j))) _ _ _ (by omega) ⟨hP, hD, hS, hl, (by first | omega | exact zcpr_s hv62_1 rfl), (by first | omega | exact zcpr_s hv62_1 rfl)⟩
        · have c_14 := zb0 c_14
          have hzi := fun z => c_14 ((zinhB (n := 10 ^ d) (by omega) (by omega)).mpr z)
          refine lv_bipush (v := -2) hx hb dX9_school_56 (by decide) ?_
          exact z_iret Z (t) (by first | rw [zPa_n (by assumption)] | (rw [zPa_y hp hn]; first | rw [zRa_n hrgn] | (rw [zRa_y hc0 hc (by decide)]; first | rw [zRa_n hrgn] | (rw [zRa_y hd0 hd (by decide)]; first | (rw [zsco_x hzi]; done) | (rw [zsco_n hd hw hi9 hk5]; done) | (rw [zsco_y hd hw hv101_2]; done)))) | rfl) hP hS dX9_school_58
  · have c_3 := zb1 c_3
    refine lv_iconst (v := -1) hx hb dX9_school_13 (by decide) ?_
    exact z_iret Z (t) (by first | rw [zPa_n (by assumption)] | (rw [zPa_y hp hn]; first | rw [zRa_n hrgn] | (rw [zRa_y hc0 hc (by decide)]; first | rw [zRa_n hrgn] | (rw [zRa_y hd0 hd (by decide)]; first | (rw [zsco_x hzi]; done) | (rw [zsco_n hd hw hi9 hk5]; done) | (rw [zsco_y hd hw hv101_2]; done)))) | rfl) hP hS dX9_school_14
