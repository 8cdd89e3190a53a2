def zmR (s : zSt) (mv md g : Nat → Int32) : Prop := (∀ i, i < zsn s → mv i = zsv s i ∧ md i = zsd s i) ∧ ∀ p, p < zsn s → zp1 p (zsf s) g
theorem zqP_4 {bf : Nat → Int32} {len a : Nat} (h : zcq (zoT bf len a) 4 = 4) : zcq (zoP bf len a) 4 = 4 := by rw [zcq_congr 4 (fun i hi => zoP_T hi)]; exact h
theorem zqP_n {bf : Nat → Int32} {len a : Nat} (h : ¬ zcq (zoT bf len a) 4 = 4) : zcq (zoP bf len a) 6 = zcq (zoT bf len a) 4 ∧ ¬ zcq (zoP bf len a) 6 = 6 := by
  have e : zcq (zoP bf len a) 4 = zcq (zoT bf len a) 4 := zcq_congr 4 (fun i hi => zoP_T hi)
  have hs := zcq_stop (o := zoP bf len a) (j := 4) (fun z => h (by rw [← e]; exact z.1)) 6 (by decide)
  exact ⟨hs.1.trans e, hs.2 (by decide)⟩
theorem zqT_len {bf : Nat → Int32} {len a : Nat} (h : zcq (zoT bf len a) 4 = 4) : a + 3 < len := by
  have h1 := (zcq_i (j := 3) h).2
  exact (of_decide_eq_true h1).1
theorem zqP_5n {bf : Nat → Int32} {len a : Nat} (h : zcq (zoT bf len a) 4 = 4) (h2 : ¬ zoR bf len (a + 4) 0 9 = true) : zcq (zoP bf len a) 6 = 4 ∧ ¬ zcq (zoP bf len a) 6 = 6 := by
  have hs := zcq_stop (o := zoP bf len a) (j := 4) (fun z => h2 z.2) 6 (by decide)
  exact ⟨hs.1.trans (zqP_4 h), hs.2 (by decide)⟩
theorem zqP_5 {bf : Nat → Int32} {len a : Nat} (h : zcq (zoT bf len a) 4 = 4) (h2 : zoR bf len (a + 4) 0 9 = true) : zcq (zoP bf len a) 5 = 5 := zcq_y (zqP_4 h) h2
theorem zqP_6n {bf : Nat → Int32} {len a : Nat} (h : zcq (zoP bf len a) 5 = 5) (h2 : ¬ zoR bf len (a + 5) 0 5 = true) : zcq (zoP bf len a) 6 = 5 ∧ ¬ zcq (zoP bf len a) 6 = 6 := by
  have hs := zcq_stop (o := zoP bf len a) (j := 5) (fun z => h2 z.2) 6 (by decide)
  exact ⟨hs.1.trans h, hs.2 (by decide)⟩
theorem zqP_6 {bf : Nat → Int32} {len a : Nat} (h : zcq (zoP bf len a) 5 = 5) (h2 : zoR bf len (a + 5) 0 5 = true) : zcq (zoP bf len a) 6 = 6 := zcq_y h h2
theorem zmR_P {bf : Nat → Int32} {len : Nat} {s : zSt} {mv md g : Nat → Int32} (h : zisP bf s) (hI : zsI len s) (hR : zmR s mv md g) :
    zmR (zsS bf s) (upd mv (zsn s) (nI (zdg bf (zsp s + 1 + 4 + 1)))) (upd md (zsn s) (nI 0)) (upd (upd (upd (zpu g (7 * zsn s) (zpd bf (zsp s + 1)) 4) (7 * zsn s + 4) (nI (10 * zdg bf (zsp s + 1 + 4)))) (7 * zsn s + 5) (-9)) (7 * zsn s + 6) (-9)) := by
  obtain ⟨i1, i2, i3, i4, i5, i6, i7, i8⟩ := hI
  have hn := h.2
  rw [zsS_P h]
  refine ⟨fun i hi => ?_, fun p hp => ?_⟩
  · have hi : i < zsn s + 1 := hi
    show _ = upd (zsv s) (zsn s) (nI (zdg bf (zsp s + 6))) i ∧ _ = zsd s i
    by_cases q : i = zsn s
    · rw [q, pk_us, pk_us, pk_us]; exact ⟨rfl, (i5 _ (Nat.le_refl _)).symm⟩
    · rw [pk_un q, pk_un q, pk_un q]; exact hR.1 i (by omega)
  · have hp : p < zsn s + 1 := hp
    show zp1 p (zpF (zsf s) (zsn s) bf (zsp s + 1)) _
    by_cases q : p = zsn s
    · subst q
      refine ⟨fun k hk => ?_, ?_, ?_, ?_⟩
      · rw [pk_un (by omega), pk_un (by omega), pk_un (by omega), zpu_in 4 hk, zpF_t hn hk]; rfl
      · rw [pk_un (by omega), pk_un (by omega), pk_us, zpF_c]
      · rw [pk_un (by omega), pk_us, zpF_o (by omega) (by omega)]; exact (i7 _ (by omega)).1.symm
      · rw [pk_us, zpF_o (by omega) (by omega)]; exact (i7 _ (by omega)).2.symm
    · obtain ⟨g1, g2, g3, g4⟩ := hR.2 p (by omega)
      refine ⟨fun k hk => ?_, ?_, ?_, ?_⟩
      · rw [pk_un (by omega), pk_un (by omega), pk_un (by omega), zpu_out 4 (by omega), zpF_o (by omega) (by omega)]; exact g1 k hk
      · rw [pk_un (by omega), pk_un (by omega), pk_un (by omega), zpu_out 4 (by omega), zpF_o (by omega) (by omega)]; exact g2
      · rw [pk_un (by omega), pk_un (by omega), pk_un (by omega), zpu_out 4 (by omega), zpF_o (by omega) (by omega)]; exact g3
      · rw [pk_un (by omega), pk_un (by omega), pk_un (by omega), zpu_out 4 (by omega), zpF_o (by omega) (by omega)]; exact g4
theorem zrdN_eq {rd r2 : Nat → Int32} {n i j : Nat} (hi : i < n) (hj : j < n) (h : ∀ x, x < n → r2 x = rd x) : ∀ x, x < n → zrdN r2 i j x = zrdN rd i j x := by
  have h1 : ∀ x, x < n → upd r2 i (r2 i ||| zbit j) x = upd rd i (rd i ||| zbit j) x := by
    intro x hx
    by_cases q : x = i
    · rw [q, pk_us, pk_us, h i hi]
    · rw [pk_un q, pk_un q, h x hx]
  intro x hx
  unfold zrdN
  by_cases q : x = j
  · rw [q, pk_us, pk_us, h1 j hj]
  · rw [pk_un q, pk_un q, h1 x hx]
theorem zmR_R {bf : Nat → Int32} {s : zSt} {mv md g : Nat → Int32} (h : ¬ zisP bf s) (hi : zdg bf (zsp s + 1) < zsn s) (hj : zdg bf (zsp s + 2) < zsn s) (hR : zmR s mv md g) : zmR (zsS bf s) mv (zrdN md (zdg bf (zsp s + 1)) (zdg bf (zsp s + 2))) g := by
  rw [zsS_R h]
  exact ⟨fun x hx => ⟨(hR.1 x hx).1, zrdN_eq hi hj (fun y hy => (hR.1 y hy).2) x hx⟩, hR.2⟩
theorem zren_eq {n i : Nat} {rd r2 : Nat → Int32} (h : r2 i = rd i) : zren n r2 i = zren n rd i := by unfold zren; rw [h]
theorem zoD_0n {bf rd : Nat → Int32} {len n a : Nat} (h : ¬ zoD bf len n rd a 0 = true) : zcq (zoD bf len n rd a) 2 = 0 := (zcq_stop (o := zoD bf len n rd a) (j := 0) (fun z => h z.2) 2 (by decide)).1
theorem zoD_1n {bf rd : Nat → Int32} {len n a : Nat} (h0 : zoD bf len n rd a 0 = true) (h : ¬ zoD bf len n rd a 1 = true) : zcq (zoD bf len n rd a) 2 = 1 := by
  have h1 : zcq (zoD bf len n rd a) 1 = 1 := zcq_y (j := 0) rfl h0
  exact (zcq_stop (o := zoD bf len n rd a) (j := 1) (fun z => h z.2) 2 (by decide)).1.trans h1
theorem zoD_2 {bf rd : Nat → Int32} {len n a : Nat} (h0 : zoD bf len n rd a 0 = true) (h : zoD bf len n rd a 1 = true) : zcq (zoD bf len n rd a) 2 = 2 := zcq_y (j := 1) (zcq_y (j := 0) rfl h0) h
theorem zoD_0i {bf rd : Nat → Int32} {len n a : Nat} (h : zoR bf len a 0 (n - 1) = true) (h2 : ¬ zren n rd (zdg bf a) = 0) : zoD bf len n rd a 0 = true := by
  show (zoR bf len a 0 (n - 1) && decide (¬ zren n rd (zdg bf a) = 0)) = true
  rw [h, decide_eq_true h2]; rfl
theorem zoD_0j {bf rd : Nat → Int32} {len n a : Nat} (h : zoD bf len n rd a 0 = true) : zoR bf len a 0 (n - 1) = true ∧ ¬ zren n rd (zdg bf a) = 0 := by
  have h : (zoR bf len a 0 (n - 1) && decide (¬ zren n rd (zdg bf a) = 0)) = true := h
  rw [Bool.and_eq_true, decide_eq_true_eq] at h; exact h
theorem zoD_1i {bf rd : Nat → Int32} {len n a : Nat} (h : zoR bf len (a + 1) 0 (n - 1) = true) (h2 : zin (zren n rd (zdg bf a)) (zdg bf (a + 1))) : zoD bf len n rd a 1 = true := by
  show (zoR bf len (a + 1) 0 (n - 1) && decide (zin (zren n rd (zdg bf a)) (zdg bf (a + 1)))) = true
  rw [h, decide_eq_true h2]; rfl
theorem zoD_1j {bf rd : Nat → Int32} {len n a : Nat} (h : zoD bf len n rd a 1 = true) : zoR bf len (a + 1) 0 (n - 1) = true ∧ zin (zren n rd (zdg bf a)) (zdg bf (a + 1)) := by
  have h : (zoR bf len (a + 1) 0 (n - 1) && decide (zin (zren n rd (zdg bf a)) (zdg bf (a + 1)))) = true := h
  rw [Bool.and_eq_true, decide_eq_true_eq] at h; exact h
theorem zbad9 {n : Nat} {P : Prop} (h : ¬ (-9 : Int32).toInt64 < 0 ∧ ¬ (nI n).toInt64 < (-9 : Int32).toInt64) : P := absurd (show (-9 : Int32).toInt64 < 0 by decide) h.1
theorem zinT {bf : Nat → Int32} {len i n : Nat} (hl : i < len) (h : ¬ (bf i - 48).toInt64 < 0 ∧ ¬ (nI n).toInt64 < (bf i - 48).toInt64) : zoR bf len i 0 n = true := by
  have hz := (zinr (x := bf i - 48) 0 n rfl rfl).mp h
  exact decide_eq_true ⟨hl, hz.1, hz.2⟩
theorem zinF {bf : Nat → Int32} {len i n : Nat} (h : ¬ (¬ (bf i - 48).toInt64 < 0 ∧ ¬ (nI n).toInt64 < (bf i - 48).toInt64)) : ¬ zoR bf len i 0 n = true := fun z => h ((zinr (x := bf i - 48) 0 n rfl rfl).mpr (of_decide_eq_true z).2)
theorem dX9_readPart_0 : decode cX9_readPart 0 = .ok (.aload_n 0, 1) := by decide +kernel
theorem dX9_readPart_1 : decode cX9_readPart 1 = .ok (.getfield 7, 3) := by decide +kernel
theorem dX9_readPart_4 : decode cX9_readPart 4 = .ok (.aload_n 0, 1) := by decide +kernel
theorem dX9_readPart_5 : decode cX9_readPart 5 = .ok (.getfield 80, 3) := by decide +kernel
theorem dX9_readPart_8 : decode cX9_readPart 8 = .ok (.iaload, 1) := by decide +kernel
theorem dX9_readPart_9 : decode cX9_readPart 9 = .ok (.istore_n 1, 1) := by decide +kernel
theorem dX9_readPart_10 : decode cX9_readPart 10 = .ok (.iload_n 1, 1) := by decide +kernel
theorem dX9_readPart_11 : decode cX9_readPart 11 = .ok (.bipush 80, 2) := by decide +kernel
theorem dX9_readPart_13 : decode cX9_readPart 13 = .ok (.if_icmp .ne 158, 3) := by decide +kernel
theorem dX9_readPart_16 : decode cX9_readPart 16 = .ok (.aload_n 0, 1) := by decide +kernel
theorem dX9_readPart_17 : decode cX9_readPart 17 = .ok (.getfield 87, 3) := by decide +kernel
theorem dX9_readPart_20 : decode cX9_readPart 20 = .ok (.iconst 5, 1) := by decide +kernel
theorem dX9_readPart_21 : decode cX9_readPart 21 = .ok (.if_icmp .ge 150, 3) := by decide +kernel
theorem dX9_readPart_24 : decode cX9_readPart 24 = .ok (.aload_n 0, 1) := by decide +kernel
theorem dX9_readPart_25 : decode cX9_readPart 25 = .ok (.dup, 1) := by decide +kernel
theorem dX9_readPart_26 : decode cX9_readPart 26 = .ok (.getfield 80, 3) := by decide +kernel
theorem dX9_readPart_29 : decode cX9_readPart 29 = .ok (.iconst 1, 1) := by decide +kernel
theorem dX9_readPart_30 : decode cX9_readPart 30 = .ok (.iadd, 1) := by decide +kernel
theorem dX9_readPart_31 : decode cX9_readPart 31 = .ok (.putfield 80, 3) := by decide +kernel
theorem dX9_readPart_34 : decode cX9_readPart 34 = .ok (.aload_n 0, 1) := by decide +kernel
theorem dX9_readPart_35 : decode cX9_readPart 35 = .ok (.aload_n 0, 1) := by decide +kernel
theorem dX9_readPart_36 : decode cX9_readPart 36 = .ok (.getfield 31, 3) := by decide +kernel
theorem dX9_readPart_39 : decode cX9_readPart 39 = .ok (.bipush 7, 2) := by decide +kernel
theorem dX9_readPart_41 : decode cX9_readPart 41 = .ok (.aload_n 0, 1) := by decide +kernel
theorem dX9_readPart_42 : decode cX9_readPart 42 = .ok (.getfield 87, 3) := by decide +kernel
theorem dX9_readPart_45 : decode cX9_readPart 45 = .ok (.imul, 1) := by decide +kernel
theorem dX9_readPart_46 : decode cX9_readPart 46 = .ok (.invokevirtual 94, 3) := by decide +kernel
theorem dX9_readPart_49 : decode cX9_readPart 49 = .ok (.ifCond .ne 5, 3) := by decide +kernel
theorem dX9_readPart_52 : decode cX9_readPart 52 = .ok (.iconst 0, 1) := by decide +kernel
theorem dX9_readPart_53 : decode cX9_readPart 53 = .ok (.ireturn, 1) := by decide +kernel
theorem dX9_readPart_54 : decode cX9_readPart 54 = .ok (.aload_n 0, 1) := by decide +kernel
theorem dX9_readPart_55 : decode cX9_readPart 55 = .ok (.iconst 0, 1) := by decide +kernel
theorem dX9_readPart_56 : decode cX9_readPart 56 = .ok (.bipush 9, 2) := by decide +kernel
theorem dX9_readPart_58 : decode cX9_readPart 58 = .ok (.invokevirtual 83, 3) := by decide +kernel
theorem dX9_readPart_61 : decode cX9_readPart 61 = .ok (.istore_n 2, 1) := by decide +kernel
theorem dX9_readPart_62 : decode cX9_readPart 62 = .ok (.iload_n 2, 1) := by decide +kernel
theorem dX9_readPart_63 : decode cX9_readPart 63 = .ok (.bipush (-9), 2) := by decide +kernel
theorem dX9_readPart_65 : decode cX9_readPart 65 = .ok (.if_icmp .ne 8, 3) := by decide +kernel
theorem dX9_readPart_68 : decode cX9_readPart 68 = .ok (.bipush (-9), 2) := by decide +kernel
theorem dX9_readPart_70 : decode cX9_readPart 70 = .ok (.goto 9, 3) := by decide +kernel
theorem dX9_readPart_73 : decode cX9_readPart 73 = .ok (.aload_n 0, 1) := by decide +kernel
theorem dX9_readPart_74 : decode cX9_readPart 74 = .ok (.iconst 0, 1) := by decide +kernel
theorem dX9_readPart_75 : decode cX9_readPart 75 = .ok (.iconst 5, 1) := by decide +kernel
theorem dX9_readPart_76 : decode cX9_readPart 76 = .ok (.invokevirtual 83, 3) := by decide +kernel
theorem dX9_readPart_79 : decode cX9_readPart 79 = .ok (.istore_n 3, 1) := by decide +kernel
theorem dX9_readPart_80 : decode cX9_readPart 80 = .ok (.iload_n 3, 1) := by decide +kernel
theorem dX9_readPart_81 : decode cX9_readPart 81 = .ok (.bipush (-9), 2) := by decide +kernel
theorem dX9_readPart_83 : decode cX9_readPart 83 = .ok (.if_icmp .ne 5, 3) := by decide +kernel
theorem dX9_readPart_86 : decode cX9_readPart 86 = .ok (.iconst 0, 1) := by decide +kernel
theorem dX9_readPart_87 : decode cX9_readPart 87 = .ok (.ireturn, 1) := by decide +kernel
theorem dX9_readPart_88 : decode cX9_readPart 88 = .ok (.aload_n 0, 1) := by decide +kernel
theorem dX9_readPart_89 : decode cX9_readPart 89 = .ok (.getfield 31, 3) := by decide +kernel
theorem dX9_readPart_92 : decode cX9_readPart 92 = .ok (.bipush 7, 2) := by decide +kernel
theorem dX9_readPart_94 : decode cX9_readPart 94 = .ok (.aload_n 0, 1) := by decide +kernel
theorem dX9_readPart_95 : decode cX9_readPart 95 = .ok (.getfield 87, 3) := by decide +kernel
theorem dX9_readPart_98 : decode cX9_readPart 98 = .ok (.imul, 1) := by decide +kernel
theorem dX9_readPart_99 : decode cX9_readPart 99 = .ok (.iconst 4, 1) := by decide +kernel
theorem dX9_readPart_100 : decode cX9_readPart 100 = .ok (.iadd, 1) := by decide +kernel
theorem dX9_readPart_101 : decode cX9_readPart 101 = .ok (.bipush 10, 2) := by decide +kernel
theorem dX9_readPart_103 : decode cX9_readPart 103 = .ok (.iload_n 2, 1) := by decide +kernel
theorem dX9_readPart_104 : decode cX9_readPart 104 = .ok (.imul, 1) := by decide +kernel
theorem dX9_readPart_105 : decode cX9_readPart 105 = .ok (.iastore, 1) := by decide +kernel
theorem dX9_readPart_106 : decode cX9_readPart 106 = .ok (.aload_n 0, 1) := by decide +kernel
theorem dX9_readPart_107 : decode cX9_readPart 107 = .ok (.getfield 31, 3) := by decide +kernel
theorem dX9_readPart_110 : decode cX9_readPart 110 = .ok (.bipush 7, 2) := by decide +kernel
theorem dX9_readPart_112 : decode cX9_readPart 112 = .ok (.aload_n 0, 1) := by decide +kernel
theorem dX9_readPart_113 : decode cX9_readPart 113 = .ok (.getfield 87, 3) := by decide +kernel
theorem dX9_readPart_116 : decode cX9_readPart 116 = .ok (.imul, 1) := by decide +kernel
theorem dX9_readPart_117 : decode cX9_readPart 117 = .ok (.iconst 5, 1) := by decide +kernel
theorem dX9_readPart_118 : decode cX9_readPart 118 = .ok (.iadd, 1) := by decide +kernel
theorem dX9_readPart_119 : decode cX9_readPart 119 = .ok (.bipush (-9), 2) := by decide +kernel
theorem dX9_readPart_121 : decode cX9_readPart 121 = .ok (.iastore, 1) := by decide +kernel
theorem dX9_readPart_122 : decode cX9_readPart 122 = .ok (.aload_n 0, 1) := by decide +kernel
theorem dX9_readPart_123 : decode cX9_readPart 123 = .ok (.getfield 31, 3) := by decide +kernel
theorem dX9_readPart_126 : decode cX9_readPart 126 = .ok (.bipush 7, 2) := by decide +kernel
theorem dX9_readPart_128 : decode cX9_readPart 128 = .ok (.aload_n 0, 1) := by decide +kernel
theorem dX9_readPart_129 : decode cX9_readPart 129 = .ok (.getfield 87, 3) := by decide +kernel
theorem dX9_readPart_132 : decode cX9_readPart 132 = .ok (.imul, 1) := by decide +kernel
theorem dX9_readPart_133 : decode cX9_readPart 133 = .ok (.bipush 6, 2) := by decide +kernel
theorem dX9_readPart_135 : decode cX9_readPart 135 = .ok (.iadd, 1) := by decide +kernel
theorem dX9_readPart_136 : decode cX9_readPart 136 = .ok (.bipush (-9), 2) := by decide +kernel
theorem dX9_readPart_138 : decode cX9_readPart 138 = .ok (.iastore, 1) := by decide +kernel
theorem dX9_readPart_139 : decode cX9_readPart 139 = .ok (.aload_n 0, 1) := by decide +kernel
theorem dX9_readPart_140 : decode cX9_readPart 140 = .ok (.getfield 25, 3) := by decide +kernel
theorem dX9_readPart_143 : decode cX9_readPart 143 = .ok (.aload_n 0, 1) := by decide +kernel
theorem dX9_readPart_144 : decode cX9_readPart 144 = .ok (.getfield 87, 3) := by decide +kernel
theorem dX9_readPart_147 : decode cX9_readPart 147 = .ok (.iload_n 3, 1) := by decide +kernel
theorem dX9_readPart_148 : decode cX9_readPart 148 = .ok (.iastore, 1) := by decide +kernel
theorem dX9_readPart_149 : decode cX9_readPart 149 = .ok (.aload_n 0, 1) := by decide +kernel
theorem dX9_readPart_150 : decode cX9_readPart 150 = .ok (.getfield 28, 3) := by decide +kernel
theorem dX9_readPart_153 : decode cX9_readPart 153 = .ok (.aload_n 0, 1) := by decide +kernel
theorem dX9_readPart_154 : decode cX9_readPart 154 = .ok (.getfield 87, 3) := by decide +kernel
theorem dX9_readPart_157 : decode cX9_readPart 157 = .ok (.iconst 0, 1) := by decide +kernel
theorem dX9_readPart_158 : decode cX9_readPart 158 = .ok (.iastore, 1) := by decide +kernel
theorem dX9_readPart_159 : decode cX9_readPart 159 = .ok (.aload_n 0, 1) := by decide +kernel
theorem dX9_readPart_160 : decode cX9_readPart 160 = .ok (.dup, 1) := by decide +kernel
theorem dX9_readPart_161 : decode cX9_readPart 161 = .ok (.getfield 87, 3) := by decide +kernel
theorem dX9_readPart_164 : decode cX9_readPart 164 = .ok (.iconst 1, 1) := by decide +kernel
theorem dX9_readPart_165 : decode cX9_readPart 165 = .ok (.iadd, 1) := by decide +kernel
theorem dX9_readPart_166 : decode cX9_readPart 166 = .ok (.putfield 87, 3) := by decide +kernel
theorem dX9_readPart_169 : decode cX9_readPart 169 = .ok (.iconst 1, 1) := by decide +kernel
theorem dX9_readPart_170 : decode cX9_readPart 170 = .ok (.ireturn, 1) := by decide +kernel
theorem dX9_readPart_171 : decode cX9_readPart 171 = .ok (.iload_n 1, 1) := by decide +kernel
theorem dX9_readPart_172 : decode cX9_readPart 172 = .ok (.bipush 82, 2) := by decide +kernel
theorem dX9_readPart_174 : decode cX9_readPart 174 = .ok (.if_icmp .ne 199, 3) := by decide +kernel
theorem dX9_readPart_177 : decode cX9_readPart 177 = .ok (.aload_n 0, 1) := by decide +kernel
theorem dX9_readPart_178 : decode cX9_readPart 178 = .ok (.getfield 98, 3) := by decide +kernel
theorem dX9_readPart_181 : decode cX9_readPart 181 = .ok (.bipush 6, 2) := by decide +kernel
theorem dX9_readPart_183 : decode cX9_readPart 183 = .ok (.if_icmp .ge 190, 3) := by decide +kernel
theorem dX9_readPart_186 : decode cX9_readPart 186 = .ok (.aload_n 0, 1) := by decide +kernel
theorem dX9_readPart_187 : decode cX9_readPart 187 = .ok (.invokevirtual 101, 3) := by decide +kernel
theorem dX9_readPart_190 : decode cX9_readPart 190 = .ok (.ifCond .eq 183, 3) := by decide +kernel
theorem dX9_readPart_193 : decode cX9_readPart 193 = .ok (.aload_n 0, 1) := by decide +kernel
theorem dX9_readPart_194 : decode cX9_readPart 194 = .ok (.dup, 1) := by decide +kernel
theorem dX9_readPart_195 : decode cX9_readPart 195 = .ok (.getfield 80, 3) := by decide +kernel
theorem dX9_readPart_198 : decode cX9_readPart 198 = .ok (.iconst 1, 1) := by decide +kernel
theorem dX9_readPart_199 : decode cX9_readPart 199 = .ok (.iadd, 1) := by decide +kernel
theorem dX9_readPart_200 : decode cX9_readPart 200 = .ok (.putfield 80, 3) := by decide +kernel
theorem dX9_readPart_203 : decode cX9_readPart 203 = .ok (.aload_n 0, 1) := by decide +kernel
theorem dX9_readPart_204 : decode cX9_readPart 204 = .ok (.getfield 80, 3) := by decide +kernel
theorem dX9_readPart_207 : decode cX9_readPart 207 = .ok (.aload_n 0, 1) := by decide +kernel
theorem dX9_readPart_208 : decode cX9_readPart 208 = .ok (.getfield 77, 3) := by decide +kernel
theorem dX9_readPart_211 : decode cX9_readPart 211 = .ok (.if_icmp .ge 18, 3) := by decide +kernel
theorem dX9_readPart_214 : decode cX9_readPart 214 = .ok (.aload_n 0, 1) := by decide +kernel
theorem dX9_readPart_215 : decode cX9_readPart 215 = .ok (.getfield 7, 3) := by decide +kernel
theorem dX9_readPart_218 : decode cX9_readPart 218 = .ok (.aload_n 0, 1) := by decide +kernel
theorem dX9_readPart_219 : decode cX9_readPart 219 = .ok (.getfield 80, 3) := by decide +kernel
theorem dX9_readPart_222 : decode cX9_readPart 222 = .ok (.iaload, 1) := by decide +kernel
theorem dX9_readPart_223 : decode cX9_readPart 223 = .ok (.bipush 48, 2) := by decide +kernel
theorem dX9_readPart_225 : decode cX9_readPart 225 = .ok (.isub, 1) := by decide +kernel
theorem dX9_readPart_226 : decode cX9_readPart 226 = .ok (.goto 5, 3) := by decide +kernel
theorem dX9_readPart_229 : decode cX9_readPart 229 = .ok (.bipush (-9), 2) := by decide +kernel
theorem dX9_readPart_231 : decode cX9_readPart 231 = .ok (.istore_n 2, 1) := by decide +kernel
theorem dX9_readPart_232 : decode cX9_readPart 232 = .ok (.iload_n 2, 1) := by decide +kernel
theorem dX9_readPart_233 : decode cX9_readPart 233 = .ok (.i2l, 1) := by decide +kernel
theorem dX9_readPart_234 : decode cX9_readPart 234 = .ok (.lconst 0, 1) := by decide +kernel
theorem dX9_readPart_235 : decode cX9_readPart 235 = .ok (.aload_n 0, 1) := by decide +kernel
theorem dX9_readPart_236 : decode cX9_readPart 236 = .ok (.getfield 87, 3) := by decide +kernel
theorem dX9_readPart_239 : decode cX9_readPart 239 = .ok (.iconst 1, 1) := by decide +kernel
theorem dX9_readPart_240 : decode cX9_readPart 240 = .ok (.isub, 1) := by decide +kernel
theorem dX9_readPart_241 : decode cX9_readPart 241 = .ok (.i2l, 1) := by decide +kernel
theorem dX9_readPart_242 : decode cX9_readPart 242 = .ok (.invokestatic 69, 3) := by decide +kernel
theorem dX9_readPart_245 : decode cX9_readPart 245 = .ok (.ifCond .eq 11, 3) := by decide +kernel
theorem dX9_readPart_248 : decode cX9_readPart 248 = .ok (.aload_n 0, 1) := by decide +kernel
theorem dX9_readPart_249 : decode cX9_readPart 249 = .ok (.iload_n 2, 1) := by decide +kernel
theorem dX9_readPart_250 : decode cX9_readPart 250 = .ok (.invokevirtual 90, 3) := by decide +kernel
theorem dX9_readPart_253 : decode cX9_readPart 253 = .ok (.ifCond .ne 5, 3) := by decide +kernel
theorem dX9_readPart_256 : decode cX9_readPart 256 = .ok (.iconst 0, 1) := by decide +kernel
theorem dX9_readPart_257 : decode cX9_readPart 257 = .ok (.ireturn, 1) := by decide +kernel
theorem dX9_readPart_258 : decode cX9_readPart 258 = .ok (.aload_n 0, 1) := by decide +kernel
theorem dX9_readPart_259 : decode cX9_readPart 259 = .ok (.dup, 1) := by decide +kernel
theorem dX9_readPart_260 : decode cX9_readPart 260 = .ok (.getfield 80, 3) := by decide +kernel
theorem dX9_readPart_263 : decode cX9_readPart 263 = .ok (.iconst 1, 1) := by decide +kernel
theorem dX9_readPart_264 : decode cX9_readPart 264 = .ok (.iadd, 1) := by decide +kernel
theorem dX9_readPart_265 : decode cX9_readPart 265 = .ok (.putfield 80, 3) := by decide +kernel
theorem dX9_readPart_268 : decode cX9_readPart 268 = .ok (.aload_n 0, 1) := by decide +kernel
theorem dX9_readPart_269 : decode cX9_readPart 269 = .ok (.getfield 80, 3) := by decide +kernel
theorem dX9_readPart_272 : decode cX9_readPart 272 = .ok (.aload_n 0, 1) := by decide +kernel
theorem dX9_readPart_273 : decode cX9_readPart 273 = .ok (.getfield 77, 3) := by decide +kernel
theorem dX9_readPart_276 : decode cX9_readPart 276 = .ok (.if_icmp .ge 18, 3) := by decide +kernel
theorem dX9_readPart_279 : decode cX9_readPart 279 = .ok (.aload_n 0, 1) := by decide +kernel
theorem dX9_readPart_280 : decode cX9_readPart 280 = .ok (.getfield 7, 3) := by decide +kernel
theorem dX9_readPart_283 : decode cX9_readPart 283 = .ok (.aload_n 0, 1) := by decide +kernel
theorem dX9_readPart_284 : decode cX9_readPart 284 = .ok (.getfield 80, 3) := by decide +kernel
theorem dX9_readPart_287 : decode cX9_readPart 287 = .ok (.iaload, 1) := by decide +kernel
theorem dX9_readPart_288 : decode cX9_readPart 288 = .ok (.bipush 48, 2) := by decide +kernel
theorem dX9_readPart_290 : decode cX9_readPart 290 = .ok (.isub, 1) := by decide +kernel
theorem dX9_readPart_291 : decode cX9_readPart 291 = .ok (.goto 5, 3) := by decide +kernel
theorem dX9_readPart_294 : decode cX9_readPart 294 = .ok (.bipush (-9), 2) := by decide +kernel
theorem dX9_readPart_296 : decode cX9_readPart 296 = .ok (.istore_n 3, 1) := by decide +kernel
theorem dX9_readPart_297 : decode cX9_readPart 297 = .ok (.iload_n 3, 1) := by decide +kernel
theorem dX9_readPart_298 : decode cX9_readPart 298 = .ok (.i2l, 1) := by decide +kernel
theorem dX9_readPart_299 : decode cX9_readPart 299 = .ok (.lconst 0, 1) := by decide +kernel
theorem dX9_readPart_300 : decode cX9_readPart 300 = .ok (.aload_n 0, 1) := by decide +kernel
theorem dX9_readPart_301 : decode cX9_readPart 301 = .ok (.getfield 87, 3) := by decide +kernel
theorem dX9_readPart_304 : decode cX9_readPart 304 = .ok (.iconst 1, 1) := by decide +kernel
theorem dX9_readPart_305 : decode cX9_readPart 305 = .ok (.isub, 1) := by decide +kernel
theorem dX9_readPart_306 : decode cX9_readPart 306 = .ok (.i2l, 1) := by decide +kernel
theorem dX9_readPart_307 : decode cX9_readPart 307 = .ok (.invokestatic 69, 3) := by decide +kernel
theorem dX9_readPart_310 : decode cX9_readPart 310 = .ok (.ifCond .eq 15, 3) := by decide +kernel
theorem dX9_readPart_313 : decode cX9_readPart 313 = .ok (.aload_n 0, 1) := by decide +kernel
theorem dX9_readPart_314 : decode cX9_readPart 314 = .ok (.iload_n 2, 1) := by decide +kernel
theorem dX9_readPart_315 : decode cX9_readPart 315 = .ok (.invokevirtual 90, 3) := by decide +kernel
theorem dX9_readPart_318 : decode cX9_readPart 318 = .ok (.iload_n 3, 1) := by decide +kernel
theorem dX9_readPart_319 : decode cX9_readPart 319 = .ok (.invokestatic 105, 3) := by decide +kernel
theorem dX9_readPart_322 : decode cX9_readPart 322 = .ok (.ifCond .ne 5, 3) := by decide +kernel
theorem dX9_readPart_325 : decode cX9_readPart 325 = .ok (.iconst 0, 1) := by decide +kernel
theorem dX9_readPart_326 : decode cX9_readPart 326 = .ok (.ireturn, 1) := by decide +kernel
theorem dX9_readPart_327 : decode cX9_readPart 327 = .ok (.aload_n 0, 1) := by decide +kernel
theorem dX9_readPart_328 : decode cX9_readPart 328 = .ok (.dup, 1) := by decide +kernel
theorem dX9_readPart_329 : decode cX9_readPart 329 = .ok (.getfield 80, 3) := by decide +kernel
theorem dX9_readPart_332 : decode cX9_readPart 332 = .ok (.iconst 1, 1) := by decide +kernel
theorem dX9_readPart_333 : decode cX9_readPart 333 = .ok (.iadd, 1) := by decide +kernel
theorem dX9_readPart_334 : decode cX9_readPart 334 = .ok (.putfield 80, 3) := by decide +kernel
theorem dX9_readPart_337 : decode cX9_readPart 337 = .ok (.aload_n 0, 1) := by decide +kernel
theorem dX9_readPart_338 : decode cX9_readPart 338 = .ok (.getfield 28, 3) := by decide +kernel
theorem dX9_readPart_341 : decode cX9_readPart 341 = .ok (.iload_n 2, 1) := by decide +kernel
theorem dX9_readPart_342 : decode cX9_readPart 342 = .ok (.dup2, 1) := by decide +kernel
theorem dX9_readPart_343 : decode cX9_readPart 343 = .ok (.iaload, 1) := by decide +kernel
theorem dX9_readPart_344 : decode cX9_readPart 344 = .ok (.iconst 1, 1) := by decide +kernel
theorem dX9_readPart_345 : decode cX9_readPart 345 = .ok (.iload_n 3, 1) := by decide +kernel
theorem dX9_readPart_346 : decode cX9_readPart 346 = .ok (.ishl, 1) := by decide +kernel
theorem dX9_readPart_347 : decode cX9_readPart 347 = .ok (.ior, 1) := by decide +kernel
theorem dX9_readPart_348 : decode cX9_readPart 348 = .ok (.iastore, 1) := by decide +kernel
theorem dX9_readPart_349 : decode cX9_readPart 349 = .ok (.aload_n 0, 1) := by decide +kernel
theorem dX9_readPart_350 : decode cX9_readPart 350 = .ok (.getfield 28, 3) := by decide +kernel
theorem dX9_readPart_353 : decode cX9_readPart 353 = .ok (.iload_n 3, 1) := by decide +kernel
theorem dX9_readPart_354 : decode cX9_readPart 354 = .ok (.dup2, 1) := by decide +kernel
theorem dX9_readPart_355 : decode cX9_readPart 355 = .ok (.iaload, 1) := by decide +kernel
theorem dX9_readPart_356 : decode cX9_readPart 356 = .ok (.iconst 1, 1) := by decide +kernel
theorem dX9_readPart_357 : decode cX9_readPart 357 = .ok (.iload_n 2, 1) := by decide +kernel
theorem dX9_readPart_358 : decode cX9_readPart 358 = .ok (.ishl, 1) := by decide +kernel
theorem dX9_readPart_359 : decode cX9_readPart 359 = .ok (.ior, 1) := by decide +kernel
theorem dX9_readPart_360 : decode cX9_readPart 360 = .ok (.iastore, 1) := by decide +kernel
theorem dX9_readPart_361 : decode cX9_readPart 361 = .ok (.aload_n 0, 1) := by decide +kernel
theorem dX9_readPart_362 : decode cX9_readPart 362 = .ok (.dup, 1) := by decide +kernel
theorem dX9_readPart_363 : decode cX9_readPart 363 = .ok (.getfield 98, 3) := by decide +kernel
theorem dX9_readPart_366 : decode cX9_readPart 366 = .ok (.iconst 1, 1) := by decide +kernel
theorem dX9_readPart_367 : decode cX9_readPart 367 = .ok (.iadd, 1) := by decide +kernel
theorem dX9_readPart_368 : decode cX9_readPart 368 = .ok (.putfield 98, 3) := by decide +kernel
theorem dX9_readPart_371 : decode cX9_readPart 371 = .ok (.iconst 1, 1) := by decide +kernel
theorem dX9_readPart_372 : decode cX9_readPart 372 = .ok (.ireturn, 1) := by decide +kernel
theorem dX9_readPart_373 : decode cX9_readPart 373 = .ok (.iconst 0, 1) := by decide +kernel
theorem dX9_readPart_374 : decode cX9_readPart 374 = .ok (.ireturn, 1) := by decide +kernel
theorem zd_X9_readPart : yX9_readPart.cls ≠ "java/lang/invoke/MethodHandle" ∧ yX9_readPart.cls ≠ "java/lang/invoke/VarHandle" ∧ (parseMethodDescriptor yX9_readPart.desc).map (fun d => d.parameters.length) = some 0 := by decide +kernel
set_option maxHeartbeats 8000000 in
set_option maxRecDepth 100000 in
theorem zc_X9_readPart (l : Launch) (D : va_G) (cI cZ : ClassId) (M : Nat) (th : Int32) (mtx : Nat) (len : Nat) (rt : Int32) (fr : Int32) (pr : Int32) (mod_ : Nat) (n : Nat) (mne : Nat) (mro : Nat) (m : Nat) (rrt : Int32) (rfr : Int32) (rpr : Int32) (mrod : Nat) (mrne : Nat) (mrro : Nat) (mrp : Nat) (mpg : Nat) (mbk : Nat) (ac : Nat) (mke : Nat) (mik : Nat) (cr : Nat) (mrw : Nat) (mrd : Nat) (sd : Int64) (mtr : Nat) (mwo : Nat) (mnx : Nat) (jr : Int32) (bf : Nat → Int32) (s8 : zSt) (mv : Nat → Int32) (md : Nat → Int32) (g : Nat → Int32) (hlen : len ≤ 64) (hI : zsI len s8) (hlt : zsp s8 < len) (hR : zmR s8 mv md g) : zI l yX9_readPart cX9_readPart 4 .boolean 3 74 D cI cZ [.ref M] [(M, .inr (9, [.int th, .ref mtx, .int (nI len), .int (nI (zsp s8)), .int rt, .int fr, .int pr, .ref mod_, .int (nI n), .ref mne, .ref mro, .int (nI m), .int rrt, .int rfr, .int rpr, .ref mrod, .int (nI (zsn s8)), .ref mrne, .ref mrro, .int (nI (zsm s8)), .ref mrp, .ref mpg, .ref mbk, .int (nI ac), .ref mke, .ref mik, .int (nI cr), .ref mrw, .ref mrd, .long sd, .ref mtr, .ref mwo, .ref mnx, .int jr])), (mtx, .inl (cI, 64, .inl bf)), (mrne, .inl (cI, 5, .inl mv)), (mrro, .inl (cI, 5, .inl md)), (mrp, .inl (cI, 36, .inl g))] (fun (r : Int32) (u : Nat × Nat × (Nat → Int32) × (Nat → Int32) × (Nat → Int32)) => (r = if zsA bf len s8 = true then 1 else 0) ∧ (zsA bf len s8 = true → u.1 = zsn (zsS bf s8) ∧ u.2.1 = zsm (zsS bf s8) ∧ zmR (zsS bf s8) u.2.2.1 u.2.2.2.1 u.2.2.2.2)) (fun (u : Nat × Nat × (Nat → Int32) × (Nat → Int32) × (Nat → Int32)) => [(M, .inr (9, [.int th, .ref mtx, .int (nI len), .int (nI (zsQ bf len s8)), .int rt, .int fr, .int pr, .ref mod_, .int (nI n), .ref mne, .ref mro, .int (nI m), .int rrt, .int rfr, .int rpr, .ref mrod, .int (nI u.1), .ref mrne, .ref mrro, .int (nI u.2.1), .ref mrp, .ref mpg, .ref mbk, .int (nI ac), .ref mke, .ref mik, .int (nI cr), .ref mrw, .ref mrd, .long sd, .ref mtr, .ref mwo, .ref mnx, .int jr])), (mtx, .inl (cI, 64, .inl bf)), (mrne, .inl (cI, 5, .inl u.2.2.1)), (mrro, .inl (cI, 5, .inl u.2.2.2.1)), (mrp, .inl (cI, 36, .inl u.2.2.2.2))]) := by
  refine zI_of (by decide) (Nat.le_of_ble_eq_true rfl) ?_
  intro pP eE sS mM aA bB mT cC A ls Z hP hD hS hl
  have hx := Z.1
  have hb := Z.2.1
  have hown := Z.2.2.2.2.2.1
  have hts := Z.2.2.2.2.1
  have Z : zAt pP sS mM aA mT cC D cI cZ A "SurpriseTaxModel" cX9_readPart 4 (some .boolean) := Z
  have hl : lv_has ls 4 [(0, .ref M)] := hl
  obtain ⟨H, hH⟩ : ∃ H, H = sS.heap := ⟨_, rfl⟩
  have hP : va_P D vwCl [(M, .inr (9, [.int th, .ref mtx, .int (nI len), .int (nI (zsp s8)), .int rt, .int fr, .int pr, .ref mod_, .int (nI n), .ref mne, .ref mro, .int (nI m), .int rrt, .int rfr, .int rpr, .ref mrod, .int (nI (zsn s8)), .ref mrne, .ref mrro, .int (nI (zsm s8)), .ref mrp, .ref mpg, .ref mbk, .int (nI ac), .ref mke, .ref mik, .int (nI cr), .ref mrw, .ref mrd, .long sd, .ref mtr, .ref mwo, .ref mnx, .int jr])), (mtx, .inl (cI, 64, .inl bf)), (mrne, .inl (cI, 5, .inl mv)), (mrro, .inl (cI, 5, .inl md)), (mrp, .inl (cI, 36, .inl g))] H := by rw [hH]; exact hP
  have hS : va_S A sS.heap H [] := by rw [hH]; exact hS
  rw [← hH]
  clear hH
  obtain ⟨locs, hlo⟩ : ∃ q : List Loc, q = [] := ⟨_, rfl⟩
  rw [← hlo] at hS ⊢
  clear hlo
  have hn := hI.2.1
  have hm6 := hI.2.2.1
  have hzh := zhoB_eq (rd := zsd s8) (r2 := md) (n := zsn s8) (zsn s8) (fun j hj => (hR.1 j hj).2)
  refine lv_aload_n hx hb dX9_readPart_0 rfl (lv_at hl 0 rfl) ?_
  refine z_get (ci := 9) (v := .ref mtx) Z zin9 hP 0 rfl rfl 1 (by decide) zm678 rfl rfl dX9_readPart_1 ?_
  refine lv_aload_n hx hb dX9_readPart_4 rfl (lv_at hl 0 rfl) ?_
  refine z_get (ci := 9) (v := .int (nI (zsp s8))) Z zin9 hP 0 rfl rfl 3 (by decide) zm680 rfl rfl dX9_readPart_5 ?_
  refine z_iald (n := 64) (f := bf) (j := zsp s8) Z hP 1 rfl (by omega) (by decide) dX9_readPart_8 ?_
  refine lv_istore_n (lv' := [(1, .int (bf (zsp s8))), (0, .ref M)]) hx hb dX9_readPart_9 rfl hl (by decide) rfl (fun ls hl => ?_)
  refine z_cut (fun H locs ls => va_P D vwCl [(M, .inr (9, [.int th, .ref mtx, .int (nI len), .int (nI (zsp s8)), .int rt, .int fr, .int pr, .ref mod_, .int (nI n), .ref mne, .ref mro, .int (nI m), .int rrt, .int rfr, .int rpr, .ref mrod, .int (nI (zsn s8)), .ref mrne, .ref mrro, .int (nI (zsm s8)), .ref mrp, .ref mpg, .ref mbk, .int (nI ac), .ref mke, .ref mik, .int (nI cr), .ref mrw, .ref mrd, .long sd, .ref mtr, .ref mwo, .ref mnx, .int jr])), (mtx, .inl (cI, 64, .inl bf)), (mrne, .inl (cI, 5, .inl mv)), (mrro, .inl (cI, 5, .inl md)), (mrp, .inl (cI, 36, .inl g))] H ∧ va_D A [(M, .inr (9, [.int th, .ref mtx, .int (nI len), .int (nI (zsp s8)), .int rt, .int fr, .int pr, .ref mod_, .int (nI n), .ref mne, .ref mro, .int (nI m), .int rrt, .int rfr, .int rpr, .ref mrod, .int (nI (zsn s8)), .ref mrne, .ref mrro, .int (nI (zsm s8)), .ref mrp, .ref mpg, .ref mbk, .int (nI ac), .ref mke, .ref mik, .int (nI cr), .ref mrw, .ref mrd, .long sd, .ref mtr, .ref mwo, .ref mnx, .int jr])), (mtx, .inl (cI, 64, .inl bf)), (mrne, .inl (cI, 5, .inl mv)), (mrro, .inl (cI, 5, .inl md)), (mrp, .inl (cI, 36, .inl g))] ∧ va_S A sS.heap H locs ∧ lv_has ls 4 [(1, .int (bf (zsp s8))), (0, .ref M)] ∧ (¬ zisP bf s8)) 171 [] (fun H locs ls hI => ?_) (fun k_1 => ?_)
  · obtain ⟨hP, hD, hS, hl, hv_k_1_0⟩ := hI
    have hq9 : ¬ zisP bf s8 := by assumption
    refine lv_iload_n hx hb dX9_readPart_171 rfl (lv_at hl 0 rfl) ?_
    refine lv_bipush (v := nI 82) hx hb dX9_readPart_172 (by decide) ?_
    refine lv_icmp_ne (tgt := 373) hx hb dX9_readPart_174 (by decide) (fun c_2 => ?_) (fun c_2 => ?_)
    · have c_2 : ¬ ((bf (zsp s8)) = 82) := c_2
      have hr9 : ¬ zisR bf s8 := fun z => c_2 z.1
      have hqa := zsA_n (len := len) hq9 hr9
      have hqq := zsQ_n (len := len) hq9 hr9
      refine lv_iconst (v := nI 0) hx hb dX9_readPart_373 (by decide) ?_
      have e_3 : nI (zsp s8) = nI (zsQ bf len s8) := by first | (rw [hqa, if_neg (by rw [decide_eq_true_eq]; exact hcn.2)]; done) | (rw [hqa, if_neg (by rw [decide_eq_true_eq]; exact hcn.2)]; rfl) | (rw [hqa, if_pos (decide_eq_true h6)]; rfl) | (rw [hqa, if_neg (by rw [decide_eq_true_eq, hcq]; decide)]; rfl) | (rw [hqa, if_pos (decide_eq_true hcq)]; rfl) | (rw [hqa]; rfl) | (rw [hqq, hcn.1]; done) | (rw [hqq, h6]; done) | (rw [hqq, hcq]; done) | (rw [hqq]; done)
      have hP : va_P D vwCl [(M, .inr (9, [.int th, .ref mtx, .int (nI len), .int (nI (zsQ bf len s8)), .int rt, .int fr, .int pr, .ref mod_, .int (nI n), .ref mne, .ref mro, .int (nI m), .int rrt, .int rfr, .int rpr, .ref mrod, .int (nI (zsn s8)), .ref mrne, .ref mrro, .int (nI (zsm s8)), .ref mrp, .ref mpg, .ref mbk, .int (nI ac), .ref mke, .ref mik, .int (nI cr), .ref mrw, .ref mrd, .long sd, .ref mtr, .ref mwo, .ref mnx, .int jr])), (mtx, .inl (cI, 64, .inl bf)), (mrne, .inl (cI, 5, .inl mv)), (mrro, .inl (cI, 5, .inl md)), (mrp, .inl (cI, 36, .inl g))] H := Eq.subst (motive := fun zz_ => va_P D vwCl [(M, .inr (9, [.int th, .ref mtx, .int (nI len), .int zz_, .int rt, .int fr, .int pr, .ref mod_, .int (nI n), .ref mne, .ref mro, .int (nI m), .int rrt, .int rfr, .int rpr, .ref mrod, .int (nI (zsn s8)), .ref mrne, .ref mrro, .int (nI (zsm s8)), .ref mrp, .ref mpg, .ref mbk, .int (nI ac), .ref mke, .ref mik, .int (nI cr), .ref mrw, .ref mrd, .long sd, .ref mtr, .ref mwo, .ref mnx, .int jr])), (mtx, .inl (cI, 64, .inl bf)), (mrne, .inl (cI, 5, .inl mv)), (mrro, .inl (cI, 5, .inl md)), (mrp, .inl (cI, 36, .inl g))] H) e_3 hP
      have hD : va_D A [(M, .inr (9, [.int th, .ref mtx, .int (nI len), .int (nI (zsQ bf len s8)), .int rt, .int fr, .int pr, .ref mod_, .int (nI n), .ref mne, .ref mro, .int (nI m), .int rrt, .int rfr, .int rpr, .ref mrod, .int (nI (zsn s8)), .ref mrne, .ref mrro, .int (nI (zsm s8)), .ref mrp, .ref mpg, .ref mbk, .int (nI ac), .ref mke, .ref mik, .int (nI cr), .ref mrw, .ref mrd, .long sd, .ref mtr, .ref mwo, .ref mnx, .int jr])), (mtx, .inl (cI, 64, .inl bf)), (mrne, .inl (cI, 5, .inl mv)), (mrro, .inl (cI, 5, .inl md)), (mrp, .inl (cI, 36, .inl g))] := zD_of hD rfl
      exact z_zret Z (zsn s8, zsm s8, mv, md, g) (by decide) ⟨(by first | (rw [hqa, if_neg (by rw [decide_eq_true_eq]; exact hcn.2)]; done) | (rw [hqa, if_neg (by rw [decide_eq_true_eq]; exact hcn.2)]; rfl) | (rw [hqa, if_pos (decide_eq_true h6)]; rfl) | (rw [hqa, if_neg (by rw [decide_eq_true_eq, hcq]; decide)]; rfl) | (rw [hqa, if_pos (decide_eq_true hcq)]; rfl) | (rw [hqa]; rfl) | (rw [hqq, hcn.1]; done) | (rw [hqq, h6]; done) | (rw [hqq, hcq]; done) | (rw [hqq]; done)), (by first | (intro z; rw [hqa, decide_eq_true_eq] at z; exact absurd z hcn.2) | exact fun _ => ⟨by rw [zsS_P hq8]; rfl, by rw [zsS_P hq8]; rfl, zmR_P hq8 hI hR⟩ | (intro z; rw [hqa, decide_eq_true_eq, hcq] at z; exact absurd z (by decide)) | exact fun _ => ⟨by rw [zsS_R hq9]; rfl, by rw [zsS_R hq9]; rfl, zmR_R hq9 (by omega) (by omega) hR⟩ | (intro z; rw [hqa] at z; exact absurd z (by decide)))⟩ hP hS dX9_readPart_374
    · have c_2 : (bf (zsp s8)) = 82 := c_2
      have hb2 := c_2
      refine lv_aload_n hx hb dX9_readPart_177 rfl (lv_at hl 1 rfl) ?_
      refine z_get (ci := 9) (v := .int (nI (zsm s8))) Z zin9 hP 0 rfl rfl 19 (by decide) zm696 rfl rfl dX9_readPart_178 ?_
      refine lv_bipush (v := nI 6) hx hb dX9_readPart_181 (by decide) ?_
      refine lv_icmp_ge (tgt := 373) hx hb dX9_readPart_183 (by decide) (fun c_4 => ?_) (fun c_4 => ?_)
      · have c_4 := zle (i := 6) (j := zsm s8) (by decide) (by omega) c_4
        have hr9 : ¬ zisR bf s8 := fun z => absurd z.2.1 (by omega)
        have hqa := zsA_n (len := len) hq9 hr9
        have hqq := zsQ_n (len := len) hq9 hr9
        refine lv_iconst (v := nI 0) hx hb dX9_readPart_373 (by decide) ?_
        have e_5 : nI (zsp s8) = nI (zsQ bf len s8) := by first | (rw [hqa, if_neg (by rw [decide_eq_true_eq]; exact hcn.2)]; done) | (rw [hqa, if_neg (by rw [decide_eq_true_eq]; exact hcn.2)]; rfl) | (rw [hqa, if_pos (decide_eq_true h6)]; rfl) | (rw [hqa, if_neg (by rw [decide_eq_true_eq, hcq]; decide)]; rfl) | (rw [hqa, if_pos (decide_eq_true hcq)]; rfl) | (rw [hqa]; rfl) | (rw [hqq, hcn.1]; done) | (rw [hqq, h6]; done) | (rw [hqq, hcq]; done) | (rw [hqq]; done)
        have hP : va_P D vwCl [(M, .inr (9, [.int th, .ref mtx, .int (nI len), .int (nI (zsQ bf len s8)), .int rt, .int fr, .int pr, .ref mod_, .int (nI n), .ref mne, .ref mro, .int (nI m), .int rrt, .int rfr, .int rpr, .ref mrod, .int (nI (zsn s8)), .ref mrne, .ref mrro, .int (nI (zsm s8)), .ref mrp, .ref mpg, .ref mbk, .int (nI ac), .ref mke, .ref mik, .int (nI cr), .ref mrw, .ref mrd, .long sd, .ref mtr, .ref mwo, .ref mnx, .int jr])), (mtx, .inl (cI, 64, .inl bf)), (mrne, .inl (cI, 5, .inl mv)), (mrro, .inl (cI, 5, .inl md)), (mrp, .inl (cI, 36, .inl g))] H := Eq.subst (motive := fun zz_ => va_P D vwCl [(M, .inr (9, [.int th, .ref mtx, .int (nI len), .int zz_, .int rt, .int fr, .int pr, .ref mod_, .int (nI n), .ref mne, .ref mro, .int (nI m), .int rrt, .int rfr, .int rpr, .ref mrod, .int (nI (zsn s8)), .ref mrne, .ref mrro, .int (nI (zsm s8)), .ref mrp, .ref mpg, .ref mbk, .int (nI ac), .ref mke, .ref mik, .int (nI cr), .ref mrw, .ref mrd, .long sd, .ref mtr, .ref mwo, .ref mnx, .int jr])), (mtx, .inl (cI, 64, .inl bf)), (mrne, .inl (cI, 5, .inl mv)), (mrro, .inl (cI, 5, .inl md)), (mrp, .inl (cI, 36, .inl g))] H) e_5 hP
        have hD : va_D A [(M, .inr (9, [.int th, .ref mtx, .int (nI len), .int (nI (zsQ bf len s8)), .int rt, .int fr, .int pr, .ref mod_, .int (nI n), .ref mne, .ref mro, .int (nI m), .int rrt, .int rfr, .int rpr, .ref mrod, .int (nI (zsn s8)), .ref mrne, .ref mrro, .int (nI (zsm s8)), .ref mrp, .ref mpg, .ref mbk, .int (nI ac), .ref mke, .ref mik, .int (nI cr), .ref mrw, .ref mrd, .long sd, .ref mtr, .ref mwo, .ref mnx, .int jr])), (mtx, .inl (cI, 64, .inl bf)), (mrne, .inl (cI, 5, .inl mv)), (mrro, .inl (cI, 5, .inl md)), (mrp, .inl (cI, 36, .inl g))] := zD_of hD rfl
        exact z_zret Z (zsn s8, zsm s8, mv, md, g) (by decide) ⟨(by first | (rw [hqa, if_neg (by rw [decide_eq_true_eq]; exact hcn.2)]; done) | (rw [hqa, if_neg (by rw [decide_eq_true_eq]; exact hcn.2)]; rfl) | (rw [hqa, if_pos (decide_eq_true h6)]; rfl) | (rw [hqa, if_neg (by rw [decide_eq_true_eq, hcq]; decide)]; rfl) | (rw [hqa, if_pos (decide_eq_true hcq)]; rfl) | (rw [hqa]; rfl) | (rw [hqq, hcn.1]; done) | (rw [hqq, h6]; done) | (rw [hqq, hcq]; done) | (rw [hqq]; done)), (by first | (intro z; rw [hqa, decide_eq_true_eq] at z; exact absurd z hcn.2) | exact fun _ => ⟨by rw [zsS_P hq8]; rfl, by rw [zsS_P hq8]; rfl, zmR_P hq8 hI hR⟩ | (intro z; rw [hqa, decide_eq_true_eq, hcq] at z; exact absurd z (by decide)) | exact fun _ => ⟨by rw [zsS_R hq9]; rfl, by rw [zsS_R hq9]; rfl, zmR_R hq9 (by omega) (by omega) hR⟩ | (intro z; rw [hqa] at z; exact absurd z (by decide)))⟩ hP hS dX9_readPart_374
      · have c_4 := znle (i := 6) (j := zsm s8) (by decide) (by omega) c_4
        refine lv_aload_n hx hb dX9_readPart_186 rfl (lv_at hl 1 rfl) ?_
        refine z_callVi (As := []) (rest := []) (ci := 9) (k0 := 0) Z hP hD hS hl.1 (zc_X9_hasOpen l D cI cZ M th mtx len (zsp s8) rt fr pr mod_ n mne mro m rrt rfr rpr mrod (zsn s8) mrne mrro (zsm s8) mrp mpg mbk ac mke mik cr mrw mrd sd mtr mwo mnx jr md (by omega)) zm773 zm774 zm16 zm39 zm775 ⟨rfl, zd_X9_hasOpen⟩ ⟨Nat.le_of_ble_eq_true rfl, Nat.le_of_ble_eq_true rfl⟩ ⟨Nat.zero_le _, Nat.zero_le _⟩ [0, 3] rfl (by decide) rfl rfl rfl (fun _ => rfl) rfl (Nat.le_of_ble_eq_true rfl) rfl dX9_readPart_187 (fun r_6 u H locs h_7 hP hD hS => ?_)
        have hP : va_P D vwCl [(M, .inr (9, [.int th, .ref mtx, .int (nI len), .int (nI (zsp s8)), .int rt, .int fr, .int pr, .ref mod_, .int (nI n), .ref mne, .ref mro, .int (nI m), .int rrt, .int rfr, .int rpr, .ref mrod, .int (nI (zsn s8)), .ref mrne, .ref mrro, .int (nI (zsm s8)), .ref mrp, .ref mpg, .ref mbk, .int (nI ac), .ref mke, .ref mik, .int (nI cr), .ref mrw, .ref mrd, .long sd, .ref mtr, .ref mwo, .ref mnx, .int jr])), (mtx, .inl (cI, 64, .inl bf)), (mrne, .inl (cI, 5, .inl mv)), (mrro, .inl (cI, 5, .inl md)), (mrp, .inl (cI, 36, .inl g))] H := hP
        have hD : va_D A [(M, .inr (9, [.int th, .ref mtx, .int (nI len), .int (nI (zsp s8)), .int rt, .int fr, .int pr, .ref mod_, .int (nI n), .ref mne, .ref mro, .int (nI m), .int rrt, .int rfr, .int rpr, .ref mrod, .int (nI (zsn s8)), .ref mrne, .ref mrro, .int (nI (zsm s8)), .ref mrp, .ref mpg, .ref mbk, .int (nI ac), .ref mke, .ref mik, .int (nI cr), .ref mrw, .ref mrd, .long sd, .ref mtr, .ref mwo, .ref mnx, .int jr])), (mtx, .inl (cI, 64, .inl bf)), (mrne, .inl (cI, 5, .inl mv)), (mrro, .inl (cI, 5, .inl md)), (mrp, .inl (cI, 36, .inl g))] := hD
        have h_7 : r_6 = if zhoB (zsn s8) md (zsn s8) = true then 1 else 0 := h_7
        subst h_7
        refine lv_if_eq (tgt := 373) hx hb dX9_readPart_190 (by decide) (fun c_8 => ?_) (fun c_8 => ?_)
        · have c_8 := zb0 c_8
          have hr9 : ¬ zisR bf s8 := fun z => c_8 (by rw [hzh]; exact z.2.2)
          have hqa := zsA_n (len := len) hq9 hr9
          have hqq := zsQ_n (len := len) hq9 hr9
          refine lv_iconst (v := nI 0) hx hb dX9_readPart_373 (by decide) ?_
          have e_9 : nI (zsp s8) = nI (zsQ bf len s8) := by first | (rw [hqa, if_neg (by rw [decide_eq_true_eq]; exact hcn.2)]; done) | (rw [hqa, if_neg (by rw [decide_eq_true_eq]; exact hcn.2)]; rfl) | (rw [hqa, if_pos (decide_eq_true h6)]; rfl) | (rw [hqa, if_neg (by rw [decide_eq_true_eq, hcq]; decide)]; rfl) | (rw [hqa, if_pos (decide_eq_true hcq)]; rfl) | (rw [hqa]; rfl) | (rw [hqq, hcn.1]; done) | (rw [hqq, h6]; done) | (rw [hqq, hcq]; done) | (rw [hqq]; done)
          have hP : va_P D vwCl [(M, .inr (9, [.int th, .ref mtx, .int (nI len), .int (nI (zsQ bf len s8)), .int rt, .int fr, .int pr, .ref mod_, .int (nI n), .ref mne, .ref mro, .int (nI m), .int rrt, .int rfr, .int rpr, .ref mrod, .int (nI (zsn s8)), .ref mrne, .ref mrro, .int (nI (zsm s8)), .ref mrp, .ref mpg, .ref mbk, .int (nI ac), .ref mke, .ref mik, .int (nI cr), .ref mrw, .ref mrd, .long sd, .ref mtr, .ref mwo, .ref mnx, .int jr])), (mtx, .inl (cI, 64, .inl bf)), (mrne, .inl (cI, 5, .inl mv)), (mrro, .inl (cI, 5, .inl md)), (mrp, .inl (cI, 36, .inl g))] H := Eq.subst (motive := fun zz_ => va_P D vwCl [(M, .inr (9, [.int th, .ref mtx, .int (nI len), .int zz_, .int rt, .int fr, .int pr, .ref mod_, .int (nI n), .ref mne, .ref mro, .int (nI m), .int rrt, .int rfr, .int rpr, .ref mrod, .int (nI (zsn s8)), .ref mrne, .ref mrro, .int (nI (zsm s8)), .ref mrp, .ref mpg, .ref mbk, .int (nI ac), .ref mke, .ref mik, .int (nI cr), .ref mrw, .ref mrd, .long sd, .ref mtr, .ref mwo, .ref mnx, .int jr])), (mtx, .inl (cI, 64, .inl bf)), (mrne, .inl (cI, 5, .inl mv)), (mrro, .inl (cI, 5, .inl md)), (mrp, .inl (cI, 36, .inl g))] H) e_9 hP
          have hD : va_D A [(M, .inr (9, [.int th, .ref mtx, .int (nI len), .int (nI (zsQ bf len s8)), .int rt, .int fr, .int pr, .ref mod_, .int (nI n), .ref mne, .ref mro, .int (nI m), .int rrt, .int rfr, .int rpr, .ref mrod, .int (nI (zsn s8)), .ref mrne, .ref mrro, .int (nI (zsm s8)), .ref mrp, .ref mpg, .ref mbk, .int (nI ac), .ref mke, .ref mik, .int (nI cr), .ref mrw, .ref mrd, .long sd, .ref mtr, .ref mwo, .ref mnx, .int jr])), (mtx, .inl (cI, 64, .inl bf)), (mrne, .inl (cI, 5, .inl mv)), (mrro, .inl (cI, 5, .inl md)), (mrp, .inl (cI, 36, .inl g))] := zD_of hD rfl
          exact z_zret Z (zsn s8, zsm s8, mv, md, g) (by decide) ⟨(by first | (rw [hqa, if_neg (by rw [decide_eq_true_eq]; exact hcn.2)]; done) | (rw [hqa, if_neg (by rw [decide_eq_true_eq]; exact hcn.2)]; rfl) | (rw [hqa, if_pos (decide_eq_true h6)]; rfl) | (rw [hqa, if_neg (by rw [decide_eq_true_eq, hcq]; decide)]; rfl) | (rw [hqa, if_pos (decide_eq_true hcq)]; rfl) | (rw [hqa]; rfl) | (rw [hqq, hcn.1]; done) | (rw [hqq, h6]; done) | (rw [hqq, hcq]; done) | (rw [hqq]; done)), (by first | (intro z; rw [hqa, decide_eq_true_eq] at z; exact absurd z hcn.2) | exact fun _ => ⟨by rw [zsS_P hq8]; rfl, by rw [zsS_P hq8]; rfl, zmR_P hq8 hI hR⟩ | (intro z; rw [hqa, decide_eq_true_eq, hcq] at z; exact absurd z (by decide)) | exact fun _ => ⟨by rw [zsS_R hq9]; rfl, by rw [zsS_R hq9]; rfl, zmR_R hq9 (by omega) (by omega) hR⟩ | (intro z; rw [hqa] at z; exact absurd z (by decide)))⟩ hP hS dX9_readPart_374
        · have c_8 := zb1 c_8
          have hr8 : zisR bf s8 := ⟨hb2, by omega, by rw [← hzh]; exact c_8⟩
          have hn1 := zhoB_pos hr8.2.2
          have hqa := zsA_R (len := len) hq9 hr8
          have hqq := zsQ_R (len := len) hq9 hr8
          refine lv_aload_n hx hb dX9_readPart_193 rfl (lv_at hl 1 rfl) ?_
          refine lv_dup hx hb dX9_readPart_194 rfl ?_
          refine z_get (ci := 9) (v := .int (nI (zsp s8))) Z zin9 hP 0 rfl rfl 3 (by decide) zm680 rfl rfl dX9_readPart_195 ?_
          refine lv_iconst (v := nI 1) hx hb dX9_readPart_198 (by decide) ?_
          refine lv_iadd hx hb dX9_readPart_199 ?_
          refine z_top (y := nI (zsp s8 + 1)) (z_add _ _) ?_
          refine z_put (ci := 9) (v := .int (nI (zsp s8 + 1))) Z zin9 tyX9 tyX9_ok nmX9 hP hD hS 0 rfl rfl 3 (by decide) zm680 rfl rfl rfl rfl (Nat.le_of_ble_eq_true rfl) dX9_readPart_200 (fun H locs hP hD hS => ?_)
          have hP : va_P D vwCl [(M, .inr (9, [.int th, .ref mtx, .int (nI len), .int (nI (zsp s8 + 1)), .int rt, .int fr, .int pr, .ref mod_, .int (nI n), .ref mne, .ref mro, .int (nI m), .int rrt, .int rfr, .int rpr, .ref mrod, .int (nI (zsn s8)), .ref mrne, .ref mrro, .int (nI (zsm s8)), .ref mrp, .ref mpg, .ref mbk, .int (nI ac), .ref mke, .ref mik, .int (nI cr), .ref mrw, .ref mrd, .long sd, .ref mtr, .ref mwo, .ref mnx, .int jr])), (mtx, .inl (cI, 64, .inl bf)), (mrne, .inl (cI, 5, .inl mv)), (mrro, .inl (cI, 5, .inl md)), (mrp, .inl (cI, 36, .inl g))] H := hP
          have hD : va_D A [(M, .inr (9, [.int th, .ref mtx, .int (nI len), .int (nI (zsp s8 + 1)), .int rt, .int fr, .int pr, .ref mod_, .int (nI n), .ref mne, .ref mro, .int (nI m), .int rrt, .int rfr, .int rpr, .ref mrod, .int (nI (zsn s8)), .ref mrne, .ref mrro, .int (nI (zsm s8)), .ref mrp, .ref mpg, .ref mbk, .int (nI ac), .ref mke, .ref mik, .int (nI cr), .ref mrw, .ref mrd, .long sd, .ref mtr, .ref mwo, .ref mnx, .int jr])), (mtx, .inl (cI, 64, .inl bf)), (mrne, .inl (cI, 5, .inl mv)), (mrro, .inl (cI, 5, .inl md)), (mrp, .inl (cI, 36, .inl g))] := hD
          refine lv_aload_n hx hb dX9_readPart_203 rfl (lv_at hl 1 rfl) ?_
          refine z_get (ci := 9) (v := .int (nI (zsp s8 + 1))) Z zin9 hP 0 rfl rfl 3 (by decide) zm680 rfl rfl dX9_readPart_204 ?_
          refine lv_aload_n hx hb dX9_readPart_207 rfl (lv_at hl 1 rfl) ?_
          refine z_get (ci := 9) (v := .int (nI len)) Z zin9 hP 0 rfl rfl 2 (by decide) zm679 rfl rfl dX9_readPart_208 ?_
          refine lv_icmp_ge (tgt := 229) hx hb dX9_readPart_211 (by decide) (fun c_10 => ?_) (fun c_10 => ?_)
          · have c_10 := zle (i := len) (j := zsp s8 + 1) (by omega) (by omega) c_10
            refine lv_bipush (v := -9) hx hb dX9_readPart_229 (by decide) ?_
            refine lv_istore_n (lv' := [(2, .int (-9)), (1, .int (bf (zsp s8))), (0, .ref M)]) hx hb dX9_readPart_231 rfl hl (by decide) rfl (fun ls hl => ?_)
            refine lv_iload_n hx hb dX9_readPart_232 rfl (lv_at hl 0 rfl) ?_
            refine lv_i2l (v := (-9).toInt64) hx hb dX9_readPart_233 rfl ?_
            refine lv_lconst (v := 0) hx hb dX9_readPart_234 (by decide) ?_
            refine lv_aload_n hx hb dX9_readPart_235 rfl (lv_at hl 2 rfl) ?_
            refine z_get (ci := 9) (v := .int (nI (zsn s8))) Z zin9 hP 0 rfl rfl 16 (by decide) zm693 rfl rfl dX9_readPart_236 ?_
            refine lv_iconst (v := nI 1) hx hb dX9_readPart_239 (by decide) ?_
            refine lv_isub hx hb dX9_readPart_240 ?_
            refine z_top (y := nI ((zsn s8) - 1)) (z_sub' (by omega)) ?_
            refine lv_i2l (v := (nI ((zsn s8) - 1)).toInt64) hx hb dX9_readPart_241 rfl ?_
            refine z_callSi (As := [.long ((-9).toInt64), .long 0, .long ((nI ((zsn s8) - 1)).toInt64)]) (rest := []) Z hP hD hS hl.1 (zc_X9_in l D cI cZ ((-9).toInt64) 0 ((nI ((zsn s8) - 1)).toInt64) ) zm750 zm751 zm39 zm752 zd_X9_in ⟨Nat.le_of_ble_eq_true rfl, Nat.le_of_ble_eq_true rfl⟩ ⟨Nat.zero_le _, Nat.zero_le _⟩ [] rfl (by decide) (fun _ => rfl) rfl (Nat.le_of_ble_eq_true rfl) rfl dX9_readPart_242 (fun r_11 u H locs h_12 hP hD hS => ?_)
            have hP : va_P D vwCl [(M, .inr (9, [.int th, .ref mtx, .int (nI len), .int (nI (zsp s8 + 1)), .int rt, .int fr, .int pr, .ref mod_, .int (nI n), .ref mne, .ref mro, .int (nI m), .int rrt, .int rfr, .int rpr, .ref mrod, .int (nI (zsn s8)), .ref mrne, .ref mrro, .int (nI (zsm s8)), .ref mrp, .ref mpg, .ref mbk, .int (nI ac), .ref mke, .ref mik, .int (nI cr), .ref mrw, .ref mrd, .long sd, .ref mtr, .ref mwo, .ref mnx, .int jr])), (mtx, .inl (cI, 64, .inl bf)), (mrne, .inl (cI, 5, .inl mv)), (mrro, .inl (cI, 5, .inl md)), (mrp, .inl (cI, 36, .inl g))] H := hP
            have hD : va_D A [(M, .inr (9, [.int th, .ref mtx, .int (nI len), .int (nI (zsp s8 + 1)), .int rt, .int fr, .int pr, .ref mod_, .int (nI n), .ref mne, .ref mro, .int (nI m), .int rrt, .int rfr, .int rpr, .ref mrod, .int (nI (zsn s8)), .ref mrne, .ref mrro, .int (nI (zsm s8)), .ref mrp, .ref mpg, .ref mbk, .int (nI ac), .ref mke, .ref mik, .int (nI cr), .ref mrw, .ref mrd, .long sd, .ref mtr, .ref mwo, .ref mnx, .int jr])), (mtx, .inl (cI, 64, .inl bf)), (mrne, .inl (cI, 5, .inl mv)), (mrro, .inl (cI, 5, .inl md)), (mrp, .inl (cI, 36, .inl g))] := hD
            have h_12 : r_11 = if ¬ ((-9).toInt64) < 0 ∧ ¬ ((nI ((zsn s8) - 1)).toInt64) < ((-9).toInt64) then 1 else 0 := h_12
            subst h_12
            refine lv_if_eq (tgt := 256) hx hb dX9_readPart_245 (by decide) (fun c_13 => ?_) (fun c_13 => ?_)
            · have c_13 := zb0 c_13
              have ho0 : ¬ zoD bf len (zsn s8) (zsd s8) (zsp s8 + 1) 0 = true := fun z => absurd (of_decide_eq_true (zoD_0j z).1).1 (by omega)
              have hcq := zoD_0n ho0
              refine lv_iconst (v := nI 0) hx hb dX9_readPart_256 (by decide) ?_
              have e_14 : nI (zsp s8 + 1) = nI (zsQ bf len s8) := by first | (rw [hqa, if_neg (by rw [decide_eq_true_eq]; exact hcn.2)]; done) | (rw [hqa, if_neg (by rw [decide_eq_true_eq]; exact hcn.2)]; rfl) | (rw [hqa, if_pos (decide_eq_true h6)]; rfl) | (rw [hqa, if_neg (by rw [decide_eq_true_eq, hcq]; decide)]; rfl) | (rw [hqa, if_pos (decide_eq_true hcq)]; rfl) | (rw [hqa]; rfl) | (rw [hqq, hcn.1]; done) | (rw [hqq, h6]; done) | (rw [hqq, hcq]; done) | (rw [hqq]; done)
              have hP : va_P D vwCl [(M, .inr (9, [.int th, .ref mtx, .int (nI len), .int (nI (zsQ bf len s8)), .int rt, .int fr, .int pr, .ref mod_, .int (nI n), .ref mne, .ref mro, .int (nI m), .int rrt, .int rfr, .int rpr, .ref mrod, .int (nI (zsn s8)), .ref mrne, .ref mrro, .int (nI (zsm s8)), .ref mrp, .ref mpg, .ref mbk, .int (nI ac), .ref mke, .ref mik, .int (nI cr), .ref mrw, .ref mrd, .long sd, .ref mtr, .ref mwo, .ref mnx, .int jr])), (mtx, .inl (cI, 64, .inl bf)), (mrne, .inl (cI, 5, .inl mv)), (mrro, .inl (cI, 5, .inl md)), (mrp, .inl (cI, 36, .inl g))] H := Eq.subst (motive := fun zz_ => va_P D vwCl [(M, .inr (9, [.int th, .ref mtx, .int (nI len), .int zz_, .int rt, .int fr, .int pr, .ref mod_, .int (nI n), .ref mne, .ref mro, .int (nI m), .int rrt, .int rfr, .int rpr, .ref mrod, .int (nI (zsn s8)), .ref mrne, .ref mrro, .int (nI (zsm s8)), .ref mrp, .ref mpg, .ref mbk, .int (nI ac), .ref mke, .ref mik, .int (nI cr), .ref mrw, .ref mrd, .long sd, .ref mtr, .ref mwo, .ref mnx, .int jr])), (mtx, .inl (cI, 64, .inl bf)), (mrne, .inl (cI, 5, .inl mv)), (mrro, .inl (cI, 5, .inl md)), (mrp, .inl (cI, 36, .inl g))] H) e_14 hP
              have hD : va_D A [(M, .inr (9, [.int th, .ref mtx, .int (nI len), .int (nI (zsQ bf len s8)), .int rt, .int fr, .int pr, .ref mod_, .int (nI n), .ref mne, .ref mro, .int (nI m), .int rrt, .int rfr, .int rpr, .ref mrod, .int (nI (zsn s8)), .ref mrne, .ref mrro, .int (nI (zsm s8)), .ref mrp, .ref mpg, .ref mbk, .int (nI ac), .ref mke, .ref mik, .int (nI cr), .ref mrw, .ref mrd, .long sd, .ref mtr, .ref mwo, .ref mnx, .int jr])), (mtx, .inl (cI, 64, .inl bf)), (mrne, .inl (cI, 5, .inl mv)), (mrro, .inl (cI, 5, .inl md)), (mrp, .inl (cI, 36, .inl g))] := zD_of hD rfl
              exact z_zret Z (zsn s8, zsm s8, mv, md, g) (by decide) ⟨(by first | (rw [hqa, if_neg (by rw [decide_eq_true_eq]; exact hcn.2)]; done) | (rw [hqa, if_neg (by rw [decide_eq_true_eq]; exact hcn.2)]; rfl) | (rw [hqa, if_pos (decide_eq_true h6)]; rfl) | (rw [hqa, if_neg (by rw [decide_eq_true_eq, hcq]; decide)]; rfl) | (rw [hqa, if_pos (decide_eq_true hcq)]; rfl) | (rw [hqa]; rfl) | (rw [hqq, hcn.1]; done) | (rw [hqq, h6]; done) | (rw [hqq, hcq]; done) | (rw [hqq]; done)), (by first | (intro z; rw [hqa, decide_eq_true_eq] at z; exact absurd z hcn.2) | exact fun _ => ⟨by rw [zsS_P hq8]; rfl, by rw [zsS_P hq8]; rfl, zmR_P hq8 hI hR⟩ | (intro z; rw [hqa, decide_eq_true_eq, hcq] at z; exact absurd z (by decide)) | exact fun _ => ⟨by rw [zsS_R hq9]; rfl, by rw [zsS_R hq9]; rfl, zmR_R hq9 (by omega) (by omega) hR⟩ | (intro z; rw [hqa] at z; exact absurd z (by decide)))⟩ hP hS dX9_readPart_257
            · have c_13 := zb1 c_13
              exact zbad9 c_13
          · have c_10 := znle (i := len) (j := zsp s8 + 1) (by omega) (by omega) c_10
            refine lv_aload_n hx hb dX9_readPart_214 rfl (lv_at hl 1 rfl) ?_
            refine z_get (ci := 9) (v := .ref mtx) Z zin9 hP 0 rfl rfl 1 (by decide) zm678 rfl rfl dX9_readPart_215 ?_
            refine lv_aload_n hx hb dX9_readPart_218 rfl (lv_at hl 1 rfl) ?_
            refine z_get (ci := 9) (v := .int (nI (zsp s8 + 1))) Z zin9 hP 0 rfl rfl 3 (by decide) zm680 rfl rfl dX9_readPart_219 ?_
            refine z_iald (n := 64) (f := bf) (j := zsp s8 + 1) Z hP 1 rfl (by omega) (by decide) dX9_readPart_222 ?_
            refine lv_bipush (v := nI 48) hx hb dX9_readPart_223 (by decide) ?_
            refine lv_isub hx hb dX9_readPart_225 ?_
            refine z_top (y := (bf (zsp s8 + 1)) - 48) rfl ?_
            refine lv_goto (tgt := 231) hx hb dX9_readPart_226 (by decide) ?_
            refine lv_istore_n (lv' := [(2, .int ((bf (zsp s8 + 1)) - 48)), (1, .int (bf (zsp s8))), (0, .ref M)]) hx hb dX9_readPart_231 rfl hl (by decide) rfl (fun ls hl => ?_)
            refine lv_iload_n hx hb dX9_readPart_232 rfl (lv_at hl 0 rfl) ?_
            refine lv_i2l (v := ((bf (zsp s8 + 1)) - 48).toInt64) hx hb dX9_readPart_233 rfl ?_
            refine lv_lconst (v := 0) hx hb dX9_readPart_234 (by decide) ?_
            refine lv_aload_n hx hb dX9_readPart_235 rfl (lv_at hl 2 rfl) ?_
            refine z_get (ci := 9) (v := .int (nI (zsn s8))) Z zin9 hP 0 rfl rfl 16 (by decide) zm693 rfl rfl dX9_readPart_236 ?_
            refine lv_iconst (v := nI 1) hx hb dX9_readPart_239 (by decide) ?_
            refine lv_isub hx hb dX9_readPart_240 ?_
            refine z_top (y := nI ((zsn s8) - 1)) (z_sub' (by omega)) ?_
            refine lv_i2l (v := (nI ((zsn s8) - 1)).toInt64) hx hb dX9_readPart_241 rfl ?_
            refine z_callSi (As := [.long (((bf (zsp s8 + 1)) - 48).toInt64), .long 0, .long ((nI ((zsn s8) - 1)).toInt64)]) (rest := []) Z hP hD hS hl.1 (zc_X9_in l D cI cZ (((bf (zsp s8 + 1)) - 48).toInt64) 0 ((nI ((zsn s8) - 1)).toInt64) ) zm750 zm751 zm39 zm752 zd_X9_in ⟨Nat.le_of_ble_eq_true rfl, Nat.le_of_ble_eq_true rfl⟩ ⟨Nat.zero_le _, Nat.zero_le _⟩ [] rfl (by decide) (fun _ => rfl) rfl (Nat.le_of_ble_eq_true rfl) rfl dX9_readPart_242 (fun r_15 u H locs h_16 hP hD hS => ?_)
            have hP : va_P D vwCl [(M, .inr (9, [.int th, .ref mtx, .int (nI len), .int (nI (zsp s8 + 1)), .int rt, .int fr, .int pr, .ref mod_, .int (nI n), .ref mne, .ref mro, .int (nI m), .int rrt, .int rfr, .int rpr, .ref mrod, .int (nI (zsn s8)), .ref mrne, .ref mrro, .int (nI (zsm s8)), .ref mrp, .ref mpg, .ref mbk, .int (nI ac), .ref mke, .ref mik, .int (nI cr), .ref mrw, .ref mrd, .long sd, .ref mtr, .ref mwo, .ref mnx, .int jr])), (mtx, .inl (cI, 64, .inl bf)), (mrne, .inl (cI, 5, .inl mv)), (mrro, .inl (cI, 5, .inl md)), (mrp, .inl (cI, 36, .inl g))] H := hP
            have hD : va_D A [(M, .inr (9, [.int th, .ref mtx, .int (nI len), .int (nI (zsp s8 + 1)), .int rt, .int fr, .int pr, .ref mod_, .int (nI n), .ref mne, .ref mro, .int (nI m), .int rrt, .int rfr, .int rpr, .ref mrod, .int (nI (zsn s8)), .ref mrne, .ref mrro, .int (nI (zsm s8)), .ref mrp, .ref mpg, .ref mbk, .int (nI ac), .ref mke, .ref mik, .int (nI cr), .ref mrw, .ref mrd, .long sd, .ref mtr, .ref mwo, .ref mnx, .int jr])), (mtx, .inl (cI, 64, .inl bf)), (mrne, .inl (cI, 5, .inl mv)), (mrro, .inl (cI, 5, .inl md)), (mrp, .inl (cI, 36, .inl g))] := hD
            have h_16 : r_15 = if ¬ (((bf (zsp s8 + 1)) - 48).toInt64) < 0 ∧ ¬ ((nI ((zsn s8) - 1)).toInt64) < (((bf (zsp s8 + 1)) - 48).toInt64) then 1 else 0 := h_16
            subst h_16
            refine lv_if_eq (tgt := 256) hx hb dX9_readPart_245 (by decide) (fun c_17 => ?_) (fun c_17 => ?_)
            · have c_17 := zb0 c_17
              have ho0 : ¬ zoD bf len (zsn s8) (zsd s8) (zsp s8 + 1) 0 = true := fun z => zinF c_17 (zoD_0j z).1
              have hcq := zoD_0n ho0
              refine lv_iconst (v := nI 0) hx hb dX9_readPart_256 (by decide) ?_
              have e_18 : nI (zsp s8 + 1) = nI (zsQ bf len s8) := by first | (rw [hqa, if_neg (by rw [decide_eq_true_eq]; exact hcn.2)]; done) | (rw [hqa, if_neg (by rw [decide_eq_true_eq]; exact hcn.2)]; rfl) | (rw [hqa, if_pos (decide_eq_true h6)]; rfl) | (rw [hqa, if_neg (by rw [decide_eq_true_eq, hcq]; decide)]; rfl) | (rw [hqa, if_pos (decide_eq_true hcq)]; rfl) | (rw [hqa]; rfl) | (rw [hqq, hcn.1]; done) | (rw [hqq, h6]; done) | (rw [hqq, hcq]; done) | (rw [hqq]; done)
              have hP : va_P D vwCl [(M, .inr (9, [.int th, .ref mtx, .int (nI len), .int (nI (zsQ bf len s8)), .int rt, .int fr, .int pr, .ref mod_, .int (nI n), .ref mne, .ref mro, .int (nI m), .int rrt, .int rfr, .int rpr, .ref mrod, .int (nI (zsn s8)), .ref mrne, .ref mrro, .int (nI (zsm s8)), .ref mrp, .ref mpg, .ref mbk, .int (nI ac), .ref mke, .ref mik, .int (nI cr), .ref mrw, .ref mrd, .long sd, .ref mtr, .ref mwo, .ref mnx, .int jr])), (mtx, .inl (cI, 64, .inl bf)), (mrne, .inl (cI, 5, .inl mv)), (mrro, .inl (cI, 5, .inl md)), (mrp, .inl (cI, 36, .inl g))] H := Eq.subst (motive := fun zz_ => va_P D vwCl [(M, .inr (9, [.int th, .ref mtx, .int (nI len), .int zz_, .int rt, .int fr, .int pr, .ref mod_, .int (nI n), .ref mne, .ref mro, .int (nI m), .int rrt, .int rfr, .int rpr, .ref mrod, .int (nI (zsn s8)), .ref mrne, .ref mrro, .int (nI (zsm s8)), .ref mrp, .ref mpg, .ref mbk, .int (nI ac), .ref mke, .ref mik, .int (nI cr), .ref mrw, .ref mrd, .long sd, .ref mtr, .ref mwo, .ref mnx, .int jr])), (mtx, .inl (cI, 64, .inl bf)), (mrne, .inl (cI, 5, .inl mv)), (mrro, .inl (cI, 5, .inl md)), (mrp, .inl (cI, 36, .inl g))] H) e_18 hP
              have hD : va_D A [(M, .inr (9, [.int th, .ref mtx, .int (nI len), .int (nI (zsQ bf len s8)), .int rt, .int fr, .int pr, .ref mod_, .int (nI n), .ref mne, .ref mro, .int (nI m), .int rrt, .int rfr, .int rpr, .ref mrod, .int (nI (zsn s8)), .ref mrne, .ref mrro, .int (nI (zsm s8)), .ref mrp, .ref mpg, .ref mbk, .int (nI ac), .ref mke, .ref mik, .int (nI cr), .ref mrw, .ref mrd, .long sd, .ref mtr, .ref mwo, .ref mnx, .int jr])), (mtx, .inl (cI, 64, .inl bf)), (mrne, .inl (cI, 5, .inl mv)), (mrro, .inl (cI, 5, .inl md)), (mrp, .inl (cI, 36, .inl g))] := zD_of hD rfl
              exact z_zret Z (zsn s8, zsm s8, mv, md, g) (by decide) ⟨(by first | (rw [hqa, if_neg (by rw [decide_eq_true_eq]; exact hcn.2)]; done) | (rw [hqa, if_neg (by rw [decide_eq_true_eq]; exact hcn.2)]; rfl) | (rw [hqa, if_pos (decide_eq_true h6)]; rfl) | (rw [hqa, if_neg (by rw [decide_eq_true_eq, hcq]; decide)]; rfl) | (rw [hqa, if_pos (decide_eq_true hcq)]; rfl) | (rw [hqa]; rfl) | (rw [hqq, hcn.1]; done) | (rw [hqq, h6]; done) | (rw [hqq, hcq]; done) | (rw [hqq]; done)), (by first | (intro z; rw [hqa, decide_eq_true_eq] at z; exact absurd z hcn.2) | exact fun _ => ⟨by rw [zsS_P hq8]; rfl, by rw [zsS_P hq8]; rfl, zmR_P hq8 hI hR⟩ | (intro z; rw [hqa, decide_eq_true_eq, hcq] at z; exact absurd z (by decide)) | exact fun _ => ⟨by rw [zsS_R hq9]; rfl, by rw [zsS_R hq9]; rfl, zmR_R hq9 (by omega) (by omega) hR⟩ | (intro z; rw [hqa] at z; exact absurd z (by decide)))⟩ hP hS dX9_readPart_257
            · have c_17 := zb1 c_17
              have hR0 := zinT (len := len) (i := zsp s8 + 1) (by omega) c_17
              have hd0 := zoR_d hR0 (by omega) (by omega)
              have hE : ((bf (zsp s8 + 1)) - 48 : Int32) = (nI (zdg bf (zsp s8 + 1))) := hd0.2.1
              have hl : lv_has ls 4 [(2, .int (nI (zdg bf (zsp s8 + 1)))), (1, .int (bf (zsp s8))), (0, .ref M)] := Eq.subst (motive := fun zz_ => lv_has ls 4 [(2, .int zz_), (1, .int (bf (zsp s8))), (0, .ref M)]) hE hl
              have hze := zren_eq (n := zsn s8) ((hR.1 (zdg bf (zsp s8 + 1)) (by omega)).2)
              refine lv_aload_n hx hb dX9_readPart_248 rfl (lv_at hl 2 rfl) ?_
              refine lv_iload_n hx hb dX9_readPart_249 rfl (lv_at hl 0 rfl) ?_
              refine z_callVi (As := [.int (nI (zdg bf (zsp s8 + 1)))]) (rest := []) (ci := 9) (k0 := 0) Z hP hD hS hl.1 (zc_X9_openOf l D cI cZ M th mtx len (zsp s8 + 1) rt fr pr mod_ n mne mro m rrt rfr rpr mrod (zsn s8) mrne mrro (zsm s8) mrp mpg mbk ac mke mik cr mrw mrd sd mtr mwo mnx jr md (zdg bf (zsp s8 + 1)) (by omega) (by omega)) zm776 zm777 zm17 zm39 zm778 ⟨rfl, zd_X9_openOf⟩ ⟨Nat.le_of_ble_eq_true rfl, Nat.le_of_ble_eq_true rfl⟩ ⟨Nat.zero_le _, Nat.zero_le _⟩ [0, 3] rfl (by decide) rfl rfl rfl (fun _ => rfl) rfl (Nat.le_of_ble_eq_true rfl) rfl dX9_readPart_250 (fun r_19 u H locs h_20 hP hD hS => ?_)
              have hP : va_P D vwCl [(M, .inr (9, [.int th, .ref mtx, .int (nI len), .int (nI (zsp s8 + 1)), .int rt, .int fr, .int pr, .ref mod_, .int (nI n), .ref mne, .ref mro, .int (nI m), .int rrt, .int rfr, .int rpr, .ref mrod, .int (nI (zsn s8)), .ref mrne, .ref mrro, .int (nI (zsm s8)), .ref mrp, .ref mpg, .ref mbk, .int (nI ac), .ref mke, .ref mik, .int (nI cr), .ref mrw, .ref mrd, .long sd, .ref mtr, .ref mwo, .ref mnx, .int jr])), (mtx, .inl (cI, 64, .inl bf)), (mrne, .inl (cI, 5, .inl mv)), (mrro, .inl (cI, 5, .inl md)), (mrp, .inl (cI, 36, .inl g))] H := hP
              have hD : va_D A [(M, .inr (9, [.int th, .ref mtx, .int (nI len), .int (nI (zsp s8 + 1)), .int rt, .int fr, .int pr, .ref mod_, .int (nI n), .ref mne, .ref mro, .int (nI m), .int rrt, .int rfr, .int rpr, .ref mrod, .int (nI (zsn s8)), .ref mrne, .ref mrro, .int (nI (zsm s8)), .ref mrp, .ref mpg, .ref mbk, .int (nI ac), .ref mke, .ref mik, .int (nI cr), .ref mrw, .ref mrd, .long sd, .ref mtr, .ref mwo, .ref mnx, .int jr])), (mtx, .inl (cI, 64, .inl bf)), (mrne, .inl (cI, 5, .inl mv)), (mrro, .inl (cI, 5, .inl md)), (mrp, .inl (cI, 36, .inl g))] := hD
              have h_20 : r_19 = zren (zsn s8) md (zdg bf (zsp s8 + 1)) := h_20
              subst h_20
              refine lv_if_ne (tgt := 258) hx hb dX9_readPart_253 (by decide) (fun c_21 => ?_) (fun c_21 => ?_)
              · have c_21 : ¬ ((zren (zsn s8) md (zdg bf (zsp s8 + 1))) = 0) := c_21
                have ho0 : zoD bf len (zsn s8) (zsd s8) (zsp s8 + 1) 0 = true := zoD_0i hR0 (by rw [← hze]; exact c_21)
                refine lv_aload_n hx hb dX9_readPart_258 rfl (lv_at hl 2 rfl) ?_
                refine lv_dup hx hb dX9_readPart_259 rfl ?_
                refine z_get (ci := 9) (v := .int (nI (zsp s8 + 1))) Z zin9 hP 0 rfl rfl 3 (by decide) zm680 rfl rfl dX9_readPart_260 ?_
                refine lv_iconst (v := nI 1) hx hb dX9_readPart_263 (by decide) ?_
                refine lv_iadd hx hb dX9_readPart_264 ?_
                refine z_top (y := nI (zsp s8 + 1 + 1)) (z_add _ _) ?_
                refine z_put (ci := 9) (v := .int (nI (zsp s8 + 1 + 1))) Z zin9 tyX9 tyX9_ok nmX9 hP hD hS 0 rfl rfl 3 (by decide) zm680 rfl rfl rfl rfl (Nat.le_of_ble_eq_true rfl) dX9_readPart_265 (fun H locs hP hD hS => ?_)
                have hP : va_P D vwCl [(M, .inr (9, [.int th, .ref mtx, .int (nI len), .int (nI (zsp s8 + 1 + 1)), .int rt, .int fr, .int pr, .ref mod_, .int (nI n), .ref mne, .ref mro, .int (nI m), .int rrt, .int rfr, .int rpr, .ref mrod, .int (nI (zsn s8)), .ref mrne, .ref mrro, .int (nI (zsm s8)), .ref mrp, .ref mpg, .ref mbk, .int (nI ac), .ref mke, .ref mik, .int (nI cr), .ref mrw, .ref mrd, .long sd, .ref mtr, .ref mwo, .ref mnx, .int jr])), (mtx, .inl (cI, 64, .inl bf)), (mrne, .inl (cI, 5, .inl mv)), (mrro, .inl (cI, 5, .inl md)), (mrp, .inl (cI, 36, .inl g))] H := hP
                have hD : va_D A [(M, .inr (9, [.int th, .ref mtx, .int (nI len), .int (nI (zsp s8 + 1 + 1)), .int rt, .int fr, .int pr, .ref mod_, .int (nI n), .ref mne, .ref mro, .int (nI m), .int rrt, .int rfr, .int rpr, .ref mrod, .int (nI (zsn s8)), .ref mrne, .ref mrro, .int (nI (zsm s8)), .ref mrp, .ref mpg, .ref mbk, .int (nI ac), .ref mke, .ref mik, .int (nI cr), .ref mrw, .ref mrd, .long sd, .ref mtr, .ref mwo, .ref mnx, .int jr])), (mtx, .inl (cI, 64, .inl bf)), (mrne, .inl (cI, 5, .inl mv)), (mrro, .inl (cI, 5, .inl md)), (mrp, .inl (cI, 36, .inl g))] := hD
                refine lv_aload_n hx hb dX9_readPart_268 rfl (lv_at hl 2 rfl) ?_
                refine z_get (ci := 9) (v := .int (nI (zsp s8 + 1 + 1))) Z zin9 hP 0 rfl rfl 3 (by decide) zm680 rfl rfl dX9_readPart_269 ?_
                refine lv_aload_n hx hb dX9_readPart_272 rfl (lv_at hl 2 rfl) ?_
                refine z_get (ci := 9) (v := .int (nI len)) Z zin9 hP 0 rfl rfl 2 (by decide) zm679 rfl rfl dX9_readPart_273 ?_
                refine lv_icmp_ge (tgt := 294) hx hb dX9_readPart_276 (by decide) (fun c_22 => ?_) (fun c_22 => ?_)
                · have c_22 := zle (i := len) (j := zsp s8 + 1 + 1) (by omega) (by omega) c_22
                  refine lv_bipush (v := -9) hx hb dX9_readPart_294 (by decide) ?_
                  refine lv_istore_n (lv' := [(3, .int (-9)), (2, .int (nI (zdg bf (zsp s8 + 1)))), (1, .int (bf (zsp s8))), (0, .ref M)]) hx hb dX9_readPart_296 rfl hl (by decide) rfl (fun ls hl => ?_)
                  refine lv_iload_n hx hb dX9_readPart_297 rfl (lv_at hl 0 rfl) ?_
                  refine lv_i2l (v := (-9).toInt64) hx hb dX9_readPart_298 rfl ?_
                  refine lv_lconst (v := 0) hx hb dX9_readPart_299 (by decide) ?_
                  refine lv_aload_n hx hb dX9_readPart_300 rfl (lv_at hl 3 rfl) ?_
                  refine z_get (ci := 9) (v := .int (nI (zsn s8))) Z zin9 hP 0 rfl rfl 16 (by decide) zm693 rfl rfl dX9_readPart_301 ?_
                  refine lv_iconst (v := nI 1) hx hb dX9_readPart_304 (by decide) ?_
                  refine lv_isub hx hb dX9_readPart_305 ?_
                  refine z_top (y := nI ((zsn s8) - 1)) (z_sub' (by omega)) ?_
                  refine lv_i2l (v := (nI ((zsn s8) - 1)).toInt64) hx hb dX9_readPart_306 rfl ?_
                  refine z_callSi (As := [.long ((-9).toInt64), .long 0, .long ((nI ((zsn s8) - 1)).toInt64)]) (rest := []) Z hP hD hS hl.1 (zc_X9_in l D cI cZ ((-9).toInt64) 0 ((nI ((zsn s8) - 1)).toInt64) ) zm750 zm751 zm39 zm752 zd_X9_in ⟨Nat.le_of_ble_eq_true rfl, Nat.le_of_ble_eq_true rfl⟩ ⟨Nat.zero_le _, Nat.zero_le _⟩ [] rfl (by decide) (fun _ => rfl) rfl (Nat.le_of_ble_eq_true rfl) rfl dX9_readPart_307 (fun r_23 u H locs h_24 hP hD hS => ?_)
                  have hP : va_P D vwCl [(M, .inr (9, [.int th, .ref mtx, .int (nI len), .int (nI (zsp s8 + 1 + 1)), .int rt, .int fr, .int pr, .ref mod_, .int (nI n), .ref mne, .ref mro, .int (nI m), .int rrt, .int rfr, .int rpr, .ref mrod, .int (nI (zsn s8)), .ref mrne, .ref mrro, .int (nI (zsm s8)), .ref mrp, .ref mpg, .ref mbk, .int (nI ac), .ref mke, .ref mik, .int (nI cr), .ref mrw, .ref mrd, .long sd, .ref mtr, .ref mwo, .ref mnx, .int jr])), (mtx, .inl (cI, 64, .inl bf)), (mrne, .inl (cI, 5, .inl mv)), (mrro, .inl (cI, 5, .inl md)), (mrp, .inl (cI, 36, .inl g))] H := hP
                  have hD : va_D A [(M, .inr (9, [.int th, .ref mtx, .int (nI len), .int (nI (zsp s8 + 1 + 1)), .int rt, .int fr, .int pr, .ref mod_, .int (nI n), .ref mne, .ref mro, .int (nI m), .int rrt, .int rfr, .int rpr, .ref mrod, .int (nI (zsn s8)), .ref mrne, .ref mrro, .int (nI (zsm s8)), .ref mrp, .ref mpg, .ref mbk, .int (nI ac), .ref mke, .ref mik, .int (nI cr), .ref mrw, .ref mrd, .long sd, .ref mtr, .ref mwo, .ref mnx, .int jr])), (mtx, .inl (cI, 64, .inl bf)), (mrne, .inl (cI, 5, .inl mv)), (mrro, .inl (cI, 5, .inl md)), (mrp, .inl (cI, 36, .inl g))] := hD
                  have h_24 : r_23 = if ¬ ((-9).toInt64) < 0 ∧ ¬ ((nI ((zsn s8) - 1)).toInt64) < ((-9).toInt64) then 1 else 0 := h_24
                  subst h_24
                  refine lv_if_eq (tgt := 325) hx hb dX9_readPart_310 (by decide) (fun c_25 => ?_) (fun c_25 => ?_)
                  · have c_25 := zb0 c_25
                    have ho1 : ¬ zoD bf len (zsn s8) (zsd s8) (zsp s8 + 1) 1 = true := fun z => absurd (of_decide_eq_true (zoD_1j z).1).1 (by omega)
                    have hcq := zoD_1n ho0 ho1
                    refine lv_iconst (v := nI 0) hx hb dX9_readPart_325 (by decide) ?_
                    have e_26 : nI (zsp s8 + 1 + 1) = nI (zsQ bf len s8) := by first | (rw [hqa, if_neg (by rw [decide_eq_true_eq]; exact hcn.2)]; done) | (rw [hqa, if_neg (by rw [decide_eq_true_eq]; exact hcn.2)]; rfl) | (rw [hqa, if_pos (decide_eq_true h6)]; rfl) | (rw [hqa, if_neg (by rw [decide_eq_true_eq, hcq]; decide)]; rfl) | (rw [hqa, if_pos (decide_eq_true hcq)]; rfl) | (rw [hqa]; rfl) | (rw [hqq, hcn.1]; done) | (rw [hqq, h6]; done) | (rw [hqq, hcq]; done) | (rw [hqq]; done)
                    have hP : va_P D vwCl [(M, .inr (9, [.int th, .ref mtx, .int (nI len), .int (nI (zsQ bf len s8)), .int rt, .int fr, .int pr, .ref mod_, .int (nI n), .ref mne, .ref mro, .int (nI m), .int rrt, .int rfr, .int rpr, .ref mrod, .int (nI (zsn s8)), .ref mrne, .ref mrro, .int (nI (zsm s8)), .ref mrp, .ref mpg, .ref mbk, .int (nI ac), .ref mke, .ref mik, .int (nI cr), .ref mrw, .ref mrd, .long sd, .ref mtr, .ref mwo, .ref mnx, .int jr])), (mtx, .inl (cI, 64, .inl bf)), (mrne, .inl (cI, 5, .inl mv)), (mrro, .inl (cI, 5, .inl md)), (mrp, .inl (cI, 36, .inl g))] H := Eq.subst (motive := fun zz_ => va_P D vwCl [(M, .inr (9, [.int th, .ref mtx, .int (nI len), .int zz_, .int rt, .int fr, .int pr, .ref mod_, .int (nI n), .ref mne, .ref mro, .int (nI m), .int rrt, .int rfr, .int rpr, .ref mrod, .int (nI (zsn s8)), .ref mrne, .ref mrro, .int (nI (zsm s8)), .ref mrp, .ref mpg, .ref mbk, .int (nI ac), .ref mke, .ref mik, .int (nI cr), .ref mrw, .ref mrd, .long sd, .ref mtr, .ref mwo, .ref mnx, .int jr])), (mtx, .inl (cI, 64, .inl bf)), (mrne, .inl (cI, 5, .inl mv)), (mrro, .inl (cI, 5, .inl md)), (mrp, .inl (cI, 36, .inl g))] H) e_26 hP
                    have hD : va_D A [(M, .inr (9, [.int th, .ref mtx, .int (nI len), .int (nI (zsQ bf len s8)), .int rt, .int fr, .int pr, .ref mod_, .int (nI n), .ref mne, .ref mro, .int (nI m), .int rrt, .int rfr, .int rpr, .ref mrod, .int (nI (zsn s8)), .ref mrne, .ref mrro, .int (nI (zsm s8)), .ref mrp, .ref mpg, .ref mbk, .int (nI ac), .ref mke, .ref mik, .int (nI cr), .ref mrw, .ref mrd, .long sd, .ref mtr, .ref mwo, .ref mnx, .int jr])), (mtx, .inl (cI, 64, .inl bf)), (mrne, .inl (cI, 5, .inl mv)), (mrro, .inl (cI, 5, .inl md)), (mrp, .inl (cI, 36, .inl g))] := zD_of hD rfl
                    exact z_zret Z (zsn s8, zsm s8, mv, md, g) (by decide) ⟨(by first | (rw [hqa, if_neg (by rw [decide_eq_true_eq]; exact hcn.2)]; done) | (rw [hqa, if_neg (by rw [decide_eq_true_eq]; exact hcn.2)]; rfl) | (rw [hqa, if_pos (decide_eq_true h6)]; rfl) | (rw [hqa, if_neg (by rw [decide_eq_true_eq, hcq]; decide)]; rfl) | (rw [hqa, if_pos (decide_eq_true hcq)]; rfl) | (rw [hqa]; rfl) | (rw [hqq, hcn.1]; done) | (rw [hqq, h6]; done) | (rw [hqq, hcq]; done) | (rw [hqq]; done)), (by first | (intro z; rw [hqa, decide_eq_true_eq] at z; exact absurd z hcn.2) | exact fun _ => ⟨by rw [zsS_P hq8]; rfl, by rw [zsS_P hq8]; rfl, zmR_P hq8 hI hR⟩ | (intro z; rw [hqa, decide_eq_true_eq, hcq] at z; exact absurd z (by decide)) | exact fun _ => ⟨by rw [zsS_R hq9]; rfl, by rw [zsS_R hq9]; rfl, zmR_R hq9 (by omega) (by omega) hR⟩ | (intro z; rw [hqa] at z; exact absurd z (by decide)))⟩ hP hS dX9_readPart_326
                  · have c_25 := zb1 c_25
                    exact zbad9 c_25
                · have c_22 := znle (i := len) (j := zsp s8 + 1 + 1) (by omega) (by omega) c_22
                  refine lv_aload_n hx hb dX9_readPart_279 rfl (lv_at hl 2 rfl) ?_
                  refine z_get (ci := 9) (v := .ref mtx) Z zin9 hP 0 rfl rfl 1 (by decide) zm678 rfl rfl dX9_readPart_280 ?_
                  refine lv_aload_n hx hb dX9_readPart_283 rfl (lv_at hl 2 rfl) ?_
                  refine z_get (ci := 9) (v := .int (nI (zsp s8 + 1 + 1))) Z zin9 hP 0 rfl rfl 3 (by decide) zm680 rfl rfl dX9_readPart_284 ?_
                  refine z_iald (n := 64) (f := bf) (j := zsp s8 + 1 + 1) Z hP 1 rfl (by omega) (by decide) dX9_readPart_287 ?_
                  refine lv_bipush (v := nI 48) hx hb dX9_readPart_288 (by decide) ?_
                  refine lv_isub hx hb dX9_readPart_290 ?_
                  refine z_top (y := (bf (zsp s8 + 1 + 1)) - 48) rfl ?_
                  refine lv_goto (tgt := 296) hx hb dX9_readPart_291 (by decide) ?_
                  refine lv_istore_n (lv' := [(3, .int ((bf (zsp s8 + 1 + 1)) - 48)), (2, .int (nI (zdg bf (zsp s8 + 1)))), (1, .int (bf (zsp s8))), (0, .ref M)]) hx hb dX9_readPart_296 rfl hl (by decide) rfl (fun ls hl => ?_)
                  refine lv_iload_n hx hb dX9_readPart_297 rfl (lv_at hl 0 rfl) ?_
                  refine lv_i2l (v := ((bf (zsp s8 + 1 + 1)) - 48).toInt64) hx hb dX9_readPart_298 rfl ?_
                  refine lv_lconst (v := 0) hx hb dX9_readPart_299 (by decide) ?_
                  refine lv_aload_n hx hb dX9_readPart_300 rfl (lv_at hl 3 rfl) ?_
                  refine z_get (ci := 9) (v := .int (nI (zsn s8))) Z zin9 hP 0 rfl rfl 16 (by decide) zm693 rfl rfl dX9_readPart_301 ?_
                  refine lv_iconst (v := nI 1) hx hb dX9_readPart_304 (by decide) ?_
                  refine lv_isub hx hb dX9_readPart_305 ?_
                  refine z_top (y := nI ((zsn s8) - 1)) (z_sub' (by omega)) ?_
                  refine lv_i2l (v := (nI ((zsn s8) - 1)).toInt64) hx hb dX9_readPart_306 rfl ?_
                  refine z_callSi (As := [.long (((bf (zsp s8 + 1 + 1)) - 48).toInt64), .long 0, .long ((nI ((zsn s8) - 1)).toInt64)]) (rest := []) Z hP hD hS hl.1 (zc_X9_in l D cI cZ (((bf (zsp s8 + 1 + 1)) - 48).toInt64) 0 ((nI ((zsn s8) - 1)).toInt64) ) zm750 zm751 zm39 zm752 zd_X9_in ⟨Nat.le_of_ble_eq_true rfl, Nat.le_of_ble_eq_true rfl⟩ ⟨Nat.zero_le _, Nat.zero_le _⟩ [] rfl (by decide) (fun _ => rfl) rfl (Nat.le_of_ble_eq_true rfl) rfl dX9_readPart_307 (fun r_27 u H locs h_28 hP hD hS => ?_)
                  have hP : va_P D vwCl [(M, .inr (9, [.int th, .ref mtx, .int (nI len), .int (nI (zsp s8 + 1 + 1)), .int rt, .int fr, .int pr, .ref mod_, .int (nI n), .ref mne, .ref mro, .int (nI m), .int rrt, .int rfr, .int rpr, .ref mrod, .int (nI (zsn s8)), .ref mrne, .ref mrro, .int (nI (zsm s8)), .ref mrp, .ref mpg, .ref mbk, .int (nI ac), .ref mke, .ref mik, .int (nI cr), .ref mrw, .ref mrd, .long sd, .ref mtr, .ref mwo, .ref mnx, .int jr])), (mtx, .inl (cI, 64, .inl bf)), (mrne, .inl (cI, 5, .inl mv)), (mrro, .inl (cI, 5, .inl md)), (mrp, .inl (cI, 36, .inl g))] H := hP
                  have hD : va_D A [(M, .inr (9, [.int th, .ref mtx, .int (nI len), .int (nI (zsp s8 + 1 + 1)), .int rt, .int fr, .int pr, .ref mod_, .int (nI n), .ref mne, .ref mro, .int (nI m), .int rrt, .int rfr, .int rpr, .ref mrod, .int (nI (zsn s8)), .ref mrne, .ref mrro, .int (nI (zsm s8)), .ref mrp, .ref mpg, .ref mbk, .int (nI ac), .ref mke, .ref mik, .int (nI cr), .ref mrw, .ref mrd, .long sd, .ref mtr, .ref mwo, .ref mnx, .int jr])), (mtx, .inl (cI, 64, .inl bf)), (mrne, .inl (cI, 5, .inl mv)), (mrro, .inl (cI, 5, .inl md)), (mrp, .inl (cI, 36, .inl g))] := hD
                  have h_28 : r_27 = if ¬ (((bf (zsp s8 + 1 + 1)) - 48).toInt64) < 0 ∧ ¬ ((nI ((zsn s8) - 1)).toInt64) < (((bf (zsp s8 + 1 + 1)) - 48).toInt64) then 1 else 0 := h_28
                  subst h_28
                  refine lv_if_eq (tgt := 325) hx hb dX9_readPart_310 (by decide) (fun c_29 => ?_) (fun c_29 => ?_)
                  · have c_29 := zb0 c_29
                    have ho1 : ¬ zoD bf len (zsn s8) (zsd s8) (zsp s8 + 1) 1 = true := fun z => zinF c_29 (zoD_1j z).1
                    have hcq := zoD_1n ho0 ho1
                    refine lv_iconst (v := nI 0) hx hb dX9_readPart_325 (by decide) ?_
                    have e_30 : nI (zsp s8 + 1 + 1) = nI (zsQ bf len s8) := by first | (rw [hqa, if_neg (by rw [decide_eq_true_eq]; exact hcn.2)]; done) | (rw [hqa, if_neg (by rw [decide_eq_true_eq]; exact hcn.2)]; rfl) | (rw [hqa, if_pos (decide_eq_true h6)]; rfl) | (rw [hqa, if_neg (by rw [decide_eq_true_eq, hcq]; decide)]; rfl) | (rw [hqa, if_pos (decide_eq_true hcq)]; rfl) | (rw [hqa]; rfl) | (rw [hqq, hcn.1]; done) | (rw [hqq, h6]; done) | (rw [hqq, hcq]; done) | (rw [hqq]; done)
                    have hP : va_P D vwCl [(M, .inr (9, [.int th, .ref mtx, .int (nI len), .int (nI (zsQ bf len s8)), .int rt, .int fr, .int pr, .ref mod_, .int (nI n), .ref mne, .ref mro, .int (nI m), .int rrt, .int rfr, .int rpr, .ref mrod, .int (nI (zsn s8)), .ref mrne, .ref mrro, .int (nI (zsm s8)), .ref mrp, .ref mpg, .ref mbk, .int (nI ac), .ref mke, .ref mik, .int (nI cr), .ref mrw, .ref mrd, .long sd, .ref mtr, .ref mwo, .ref mnx, .int jr])), (mtx, .inl (cI, 64, .inl bf)), (mrne, .inl (cI, 5, .inl mv)), (mrro, .inl (cI, 5, .inl md)), (mrp, .inl (cI, 36, .inl g))] H := Eq.subst (motive := fun zz_ => va_P D vwCl [(M, .inr (9, [.int th, .ref mtx, .int (nI len), .int zz_, .int rt, .int fr, .int pr, .ref mod_, .int (nI n), .ref mne, .ref mro, .int (nI m), .int rrt, .int rfr, .int rpr, .ref mrod, .int (nI (zsn s8)), .ref mrne, .ref mrro, .int (nI (zsm s8)), .ref mrp, .ref mpg, .ref mbk, .int (nI ac), .ref mke, .ref mik, .int (nI cr), .ref mrw, .ref mrd, .long sd, .ref mtr, .ref mwo, .ref mnx, .int jr])), (mtx, .inl (cI, 64, .inl bf)), (mrne, .inl (cI, 5, .inl mv)), (mrro, .inl (cI, 5, .inl md)), (mrp, .inl (cI, 36, .inl g))] H) e_30 hP
                    have hD : va_D A [(M, .inr (9, [.int th, .ref mtx, .int (nI len), .int (nI (zsQ bf len s8)), .int rt, .int fr, .int pr, .ref mod_, .int (nI n), .ref mne, .ref mro, .int (nI m), .int rrt, .int rfr, .int rpr, .ref mrod, .int (nI (zsn s8)), .ref mrne, .ref mrro, .int (nI (zsm s8)), .ref mrp, .ref mpg, .ref mbk, .int (nI ac), .ref mke, .ref mik, .int (nI cr), .ref mrw, .ref mrd, .long sd, .ref mtr, .ref mwo, .ref mnx, .int jr])), (mtx, .inl (cI, 64, .inl bf)), (mrne, .inl (cI, 5, .inl mv)), (mrro, .inl (cI, 5, .inl md)), (mrp, .inl (cI, 36, .inl g))] := zD_of hD rfl
                    exact z_zret Z (zsn s8, zsm s8, mv, md, g) (by decide) ⟨(by first | (rw [hqa, if_neg (by rw [decide_eq_true_eq]; exact hcn.2)]; done) | (rw [hqa, if_neg (by rw [decide_eq_true_eq]; exact hcn.2)]; rfl) | (rw [hqa, if_pos (decide_eq_true h6)]; rfl) | (rw [hqa, if_neg (by rw [decide_eq_true_eq, hcq]; decide)]; rfl) | (rw [hqa, if_pos (decide_eq_true hcq)]; rfl) | (rw [hqa]; rfl) | (rw [hqq, hcn.1]; done) | (rw [hqq, h6]; done) | (rw [hqq, hcq]; done) | (rw [hqq]; done)), (by first | (intro z; rw [hqa, decide_eq_true_eq] at z; exact absurd z hcn.2) | exact fun _ => ⟨by rw [zsS_P hq8]; rfl, by rw [zsS_P hq8]; rfl, zmR_P hq8 hI hR⟩ | (intro z; rw [hqa, decide_eq_true_eq, hcq] at z; exact absurd z (by decide)) | exact fun _ => ⟨by rw [zsS_R hq9]; rfl, by rw [zsS_R hq9]; rfl, zmR_R hq9 (by omega) (by omega) hR⟩ | (intro z; rw [hqa] at z; exact absurd z (by decide)))⟩ hP hS dX9_readPart_326
                  · have c_29 := zb1 c_29
                    have hR1 := zinT (len := len) (i := zsp s8 + 2) (by omega) c_29
                    have hd1 := zoR_d hR1 (by omega) (by omega)
                    have hE : ((bf (zsp s8 + 1 + 1)) - 48 : Int32) = (nI (zdg bf (zsp s8 + 2))) := hd1.2.1
                    have hl : lv_has ls 4 [(3, .int (nI (zdg bf (zsp s8 + 2)))), (2, .int (nI (zdg bf (zsp s8 + 1)))), (1, .int (bf (zsp s8))), (0, .ref M)] := Eq.subst (motive := fun zz_ => lv_has ls 4 [(3, .int zz_), (2, .int (nI (zdg bf (zsp s8 + 1)))), (1, .int (bf (zsp s8))), (0, .ref M)]) hE hl
                    refine lv_aload_n hx hb dX9_readPart_313 rfl (lv_at hl 3 rfl) ?_
                    refine lv_iload_n hx hb dX9_readPart_314 rfl (lv_at hl 1 rfl) ?_
                    refine z_callVi (As := [.int (nI (zdg bf (zsp s8 + 1)))]) (rest := []) (ci := 9) (k0 := 0) Z hP hD hS hl.1 (zc_X9_openOf l D cI cZ M th mtx len (zsp s8 + 1 + 1) rt fr pr mod_ n mne mro m rrt rfr rpr mrod (zsn s8) mrne mrro (zsm s8) mrp mpg mbk ac mke mik cr mrw mrd sd mtr mwo mnx jr md (zdg bf (zsp s8 + 1)) (by omega) (by omega)) zm776 zm777 zm17 zm39 zm778 ⟨rfl, zd_X9_openOf⟩ ⟨Nat.le_of_ble_eq_true rfl, Nat.le_of_ble_eq_true rfl⟩ ⟨Nat.zero_le _, Nat.zero_le _⟩ [0, 3] rfl (by decide) rfl rfl rfl (fun _ => rfl) rfl (Nat.le_of_ble_eq_true rfl) rfl dX9_readPart_315 (fun r_31 u H locs h_32 hP hD hS => ?_)
                    have hP : va_P D vwCl [(M, .inr (9, [.int th, .ref mtx, .int (nI len), .int (nI (zsp s8 + 1 + 1)), .int rt, .int fr, .int pr, .ref mod_, .int (nI n), .ref mne, .ref mro, .int (nI m), .int rrt, .int rfr, .int rpr, .ref mrod, .int (nI (zsn s8)), .ref mrne, .ref mrro, .int (nI (zsm s8)), .ref mrp, .ref mpg, .ref mbk, .int (nI ac), .ref mke, .ref mik, .int (nI cr), .ref mrw, .ref mrd, .long sd, .ref mtr, .ref mwo, .ref mnx, .int jr])), (mtx, .inl (cI, 64, .inl bf)), (mrne, .inl (cI, 5, .inl mv)), (mrro, .inl (cI, 5, .inl md)), (mrp, .inl (cI, 36, .inl g))] H := hP
                    have hD : va_D A [(M, .inr (9, [.int th, .ref mtx, .int (nI len), .int (nI (zsp s8 + 1 + 1)), .int rt, .int fr, .int pr, .ref mod_, .int (nI n), .ref mne, .ref mro, .int (nI m), .int rrt, .int rfr, .int rpr, .ref mrod, .int (nI (zsn s8)), .ref mrne, .ref mrro, .int (nI (zsm s8)), .ref mrp, .ref mpg, .ref mbk, .int (nI ac), .ref mke, .ref mik, .int (nI cr), .ref mrw, .ref mrd, .long sd, .ref mtr, .ref mwo, .ref mnx, .int jr])), (mtx, .inl (cI, 64, .inl bf)), (mrne, .inl (cI, 5, .inl mv)), (mrro, .inl (cI, 5, .inl md)), (mrp, .inl (cI, 36, .inl g))] := hD
                    have h_32 : r_31 = zren (zsn s8) md (zdg bf (zsp s8 + 1)) := h_32
                    subst h_32
                    refine lv_iload_n hx hb dX9_readPart_318 rfl (lv_at hl 0 rfl) ?_
                    refine z_callSi (As := [.int (zren (zsn s8) md (zdg bf (zsp s8 + 1))), .int (nI (zdg bf (zsp s8 + 2)))]) (rest := []) Z hP hD hS hl.1 (zc_X9_has l D cI cZ (zren (zsn s8) md (zdg bf (zsp s8 + 1))) (zdg bf (zsp s8 + 2)) (by omega)) zm779 zm780 zm39 zm781 zd_X9_has ⟨Nat.le_of_ble_eq_true rfl, Nat.le_of_ble_eq_true rfl⟩ ⟨Nat.zero_le _, Nat.zero_le _⟩ [] rfl (by decide) (fun _ => rfl) rfl (Nat.le_of_ble_eq_true rfl) rfl dX9_readPart_319 (fun r_33 u H locs h_34 hP hD hS => ?_)
                    have hP : va_P D vwCl [(M, .inr (9, [.int th, .ref mtx, .int (nI len), .int (nI (zsp s8 + 1 + 1)), .int rt, .int fr, .int pr, .ref mod_, .int (nI n), .ref mne, .ref mro, .int (nI m), .int rrt, .int rfr, .int rpr, .ref mrod, .int (nI (zsn s8)), .ref mrne, .ref mrro, .int (nI (zsm s8)), .ref mrp, .ref mpg, .ref mbk, .int (nI ac), .ref mke, .ref mik, .int (nI cr), .ref mrw, .ref mrd, .long sd, .ref mtr, .ref mwo, .ref mnx, .int jr])), (mtx, .inl (cI, 64, .inl bf)), (mrne, .inl (cI, 5, .inl mv)), (mrro, .inl (cI, 5, .inl md)), (mrp, .inl (cI, 36, .inl g))] H := hP
                    have hD : va_D A [(M, .inr (9, [.int th, .ref mtx, .int (nI len), .int (nI (zsp s8 + 1 + 1)), .int rt, .int fr, .int pr, .ref mod_, .int (nI n), .ref mne, .ref mro, .int (nI m), .int rrt, .int rfr, .int rpr, .ref mrod, .int (nI (zsn s8)), .ref mrne, .ref mrro, .int (nI (zsm s8)), .ref mrp, .ref mpg, .ref mbk, .int (nI ac), .ref mke, .ref mik, .int (nI cr), .ref mrw, .ref mrd, .long sd, .ref mtr, .ref mwo, .ref mnx, .int jr])), (mtx, .inl (cI, 64, .inl bf)), (mrne, .inl (cI, 5, .inl mv)), (mrro, .inl (cI, 5, .inl md)), (mrp, .inl (cI, 36, .inl g))] := hD
                    have h_34 : r_33 = if zin (zren (zsn s8) md (zdg bf (zsp s8 + 1))) (zdg bf (zsp s8 + 2)) then 1 else 0 := h_34
                    subst h_34
                    refine lv_if_ne (tgt := 327) hx hb dX9_readPart_322 (by decide) (fun c_35 => ?_) (fun c_35 => ?_)
                    · have c_35 := zb1 c_35
                      have ho1 := zoD_1i hR1 (by rw [← hze]; exact c_35)
                      refine lv_aload_n hx hb dX9_readPart_327 rfl (lv_at hl 3 rfl) ?_
                      refine lv_dup hx hb dX9_readPart_328 rfl ?_
                      refine z_get (ci := 9) (v := .int (nI (zsp s8 + 1 + 1))) Z zin9 hP 0 rfl rfl 3 (by decide) zm680 rfl rfl dX9_readPart_329 ?_
                      refine lv_iconst (v := nI 1) hx hb dX9_readPart_332 (by decide) ?_
                      refine lv_iadd hx hb dX9_readPart_333 ?_
                      refine z_top (y := nI (zsp s8 + 1 + 1 + 1)) (z_add _ _) ?_
                      refine z_put (ci := 9) (v := .int (nI (zsp s8 + 1 + 1 + 1))) Z zin9 tyX9 tyX9_ok nmX9 hP hD hS 0 rfl rfl 3 (by decide) zm680 rfl rfl rfl rfl (Nat.le_of_ble_eq_true rfl) dX9_readPart_334 (fun H locs hP hD hS => ?_)
                      have hP : va_P D vwCl [(M, .inr (9, [.int th, .ref mtx, .int (nI len), .int (nI (zsp s8 + 1 + 1 + 1)), .int rt, .int fr, .int pr, .ref mod_, .int (nI n), .ref mne, .ref mro, .int (nI m), .int rrt, .int rfr, .int rpr, .ref mrod, .int (nI (zsn s8)), .ref mrne, .ref mrro, .int (nI (zsm s8)), .ref mrp, .ref mpg, .ref mbk, .int (nI ac), .ref mke, .ref mik, .int (nI cr), .ref mrw, .ref mrd, .long sd, .ref mtr, .ref mwo, .ref mnx, .int jr])), (mtx, .inl (cI, 64, .inl bf)), (mrne, .inl (cI, 5, .inl mv)), (mrro, .inl (cI, 5, .inl md)), (mrp, .inl (cI, 36, .inl g))] H := hP
                      have hD : va_D A [(M, .inr (9, [.int th, .ref mtx, .int (nI len), .int (nI (zsp s8 + 1 + 1 + 1)), .int rt, .int fr, .int pr, .ref mod_, .int (nI n), .ref mne, .ref mro, .int (nI m), .int rrt, .int rfr, .int rpr, .ref mrod, .int (nI (zsn s8)), .ref mrne, .ref mrro, .int (nI (zsm s8)), .ref mrp, .ref mpg, .ref mbk, .int (nI ac), .ref mke, .ref mik, .int (nI cr), .ref mrw, .ref mrd, .long sd, .ref mtr, .ref mwo, .ref mnx, .int jr])), (mtx, .inl (cI, 64, .inl bf)), (mrne, .inl (cI, 5, .inl mv)), (mrro, .inl (cI, 5, .inl md)), (mrp, .inl (cI, 36, .inl g))] := hD
                      refine lv_aload_n hx hb dX9_readPart_337 rfl (lv_at hl 3 rfl) ?_
                      refine z_get (ci := 9) (v := .ref mrro) Z zin9 hP 0 rfl rfl 18 (by decide) zm695 rfl rfl dX9_readPart_338 ?_
                      refine lv_iload_n hx hb dX9_readPart_341 rfl (lv_at hl 1 rfl) ?_
                      refine lv_dup2_11 hx hb dX9_readPart_342 rfl rfl ?_
                      refine z_iald (n := 5) (f := md) (j := zdg bf (zsp s8 + 1)) Z hP 3 rfl (by omega) (by decide) dX9_readPart_343 ?_
                      refine lv_iconst (v := nI 1) hx hb dX9_readPart_344 (by decide) ?_
                      refine lv_iload_n hx hb dX9_readPart_345 rfl (lv_at hl 0 rfl) ?_
                      refine lv_ishl hx hb dX9_readPart_346 ?_
                      refine z_top (y := (1 : Int32) <<< ((nI (zdg bf (zsp s8 + 2))) &&& 31)) rfl ?_
                      refine z_top (y := zbit (zdg bf (zsp s8 + 2))) (rfl) ?_
                      refine lv_ior hx hb dX9_readPart_347 ?_
                      refine z_top (y := (md (zdg bf (zsp s8 + 1))) ||| (zbit (zdg bf (zsp s8 + 2)))) rfl ?_
                      refine z_iast (n := 5) (f := md) (j := zdg bf (zsp s8 + 1)) (x := (md (zdg bf (zsp s8 + 1))) ||| (zbit (zdg bf (zsp s8 + 2)))) Z hP hD hS 3 rfl (by omega) (by decide) dX9_readPart_348 (fun H locs hP hD hS => ?_)
                      have hP : va_P D vwCl [(M, .inr (9, [.int th, .ref mtx, .int (nI len), .int (nI (zsp s8 + 1 + 1 + 1)), .int rt, .int fr, .int pr, .ref mod_, .int (nI n), .ref mne, .ref mro, .int (nI m), .int rrt, .int rfr, .int rpr, .ref mrod, .int (nI (zsn s8)), .ref mrne, .ref mrro, .int (nI (zsm s8)), .ref mrp, .ref mpg, .ref mbk, .int (nI ac), .ref mke, .ref mik, .int (nI cr), .ref mrw, .ref mrd, .long sd, .ref mtr, .ref mwo, .ref mnx, .int jr])), (mtx, .inl (cI, 64, .inl bf)), (mrne, .inl (cI, 5, .inl mv)), (mrro, .inl (cI, 5, .inl (upd md (zdg bf (zsp s8 + 1)) ((md (zdg bf (zsp s8 + 1))) ||| (zbit (zdg bf (zsp s8 + 2))))))), (mrp, .inl (cI, 36, .inl g))] H := hP
                      have hD : va_D A [(M, .inr (9, [.int th, .ref mtx, .int (nI len), .int (nI (zsp s8 + 1 + 1 + 1)), .int rt, .int fr, .int pr, .ref mod_, .int (nI n), .ref mne, .ref mro, .int (nI m), .int rrt, .int rfr, .int rpr, .ref mrod, .int (nI (zsn s8)), .ref mrne, .ref mrro, .int (nI (zsm s8)), .ref mrp, .ref mpg, .ref mbk, .int (nI ac), .ref mke, .ref mik, .int (nI cr), .ref mrw, .ref mrd, .long sd, .ref mtr, .ref mwo, .ref mnx, .int jr])), (mtx, .inl (cI, 64, .inl bf)), (mrne, .inl (cI, 5, .inl mv)), (mrro, .inl (cI, 5, .inl (upd md (zdg bf (zsp s8 + 1)) ((md (zdg bf (zsp s8 + 1))) ||| (zbit (zdg bf (zsp s8 + 2))))))), (mrp, .inl (cI, 36, .inl g))] := hD
                      refine lv_aload_n hx hb dX9_readPart_349 rfl (lv_at hl 3 rfl) ?_
                      refine z_get (ci := 9) (v := .ref mrro) Z zin9 hP 0 rfl rfl 18 (by decide) zm695 rfl rfl dX9_readPart_350 ?_
                      refine lv_iload_n hx hb dX9_readPart_353 rfl (lv_at hl 0 rfl) ?_
                      refine lv_dup2_11 hx hb dX9_readPart_354 rfl rfl ?_
                      refine z_iald (n := 5) (f := upd md (zdg bf (zsp s8 + 1)) ((md (zdg bf (zsp s8 + 1))) ||| (zbit (zdg bf (zsp s8 + 2))))) (j := zdg bf (zsp s8 + 2)) Z hP 3 rfl (by omega) (by decide) dX9_readPart_355 ?_
                      refine lv_iconst (v := nI 1) hx hb dX9_readPart_356 (by decide) ?_
                      refine lv_iload_n hx hb dX9_readPart_357 rfl (lv_at hl 1 rfl) ?_
                      refine lv_ishl hx hb dX9_readPart_358 ?_
                      refine z_top (y := (1 : Int32) <<< ((nI (zdg bf (zsp s8 + 1))) &&& 31)) rfl ?_
                      refine z_top (y := zbit (zdg bf (zsp s8 + 1))) (rfl) ?_
                      refine lv_ior hx hb dX9_readPart_359 ?_
                      refine z_top (y := ((upd md (zdg bf (zsp s8 + 1)) ((md (zdg bf (zsp s8 + 1))) ||| (zbit (zdg bf (zsp s8 + 2))))) (zdg bf (zsp s8 + 2))) ||| (zbit (zdg bf (zsp s8 + 1)))) rfl ?_
                      refine z_iast (n := 5) (f := upd md (zdg bf (zsp s8 + 1)) ((md (zdg bf (zsp s8 + 1))) ||| (zbit (zdg bf (zsp s8 + 2))))) (j := zdg bf (zsp s8 + 2)) (x := ((upd md (zdg bf (zsp s8 + 1)) ((md (zdg bf (zsp s8 + 1))) ||| (zbit (zdg bf (zsp s8 + 2))))) (zdg bf (zsp s8 + 2))) ||| (zbit (zdg bf (zsp s8 + 1)))) Z hP hD hS 3 rfl (by omega) (by decide) dX9_readPart_360 (fun H locs hP hD hS => ?_)
                      have hP : va_P D vwCl [(M, .inr (9, [.int th, .ref mtx, .int (nI len), .int (nI (zsp s8 + 1 + 1 + 1)), .int rt, .int fr, .int pr, .ref mod_, .int (nI n), .ref mne, .ref mro, .int (nI m), .int rrt, .int rfr, .int rpr, .ref mrod, .int (nI (zsn s8)), .ref mrne, .ref mrro, .int (nI (zsm s8)), .ref mrp, .ref mpg, .ref mbk, .int (nI ac), .ref mke, .ref mik, .int (nI cr), .ref mrw, .ref mrd, .long sd, .ref mtr, .ref mwo, .ref mnx, .int jr])), (mtx, .inl (cI, 64, .inl bf)), (mrne, .inl (cI, 5, .inl mv)), (mrro, .inl (cI, 5, .inl (upd (upd md (zdg bf (zsp s8 + 1)) ((md (zdg bf (zsp s8 + 1))) ||| (zbit (zdg bf (zsp s8 + 2))))) (zdg bf (zsp s8 + 2)) (((upd md (zdg bf (zsp s8 + 1)) ((md (zdg bf (zsp s8 + 1))) ||| (zbit (zdg bf (zsp s8 + 2))))) (zdg bf (zsp s8 + 2))) ||| (zbit (zdg bf (zsp s8 + 1))))))), (mrp, .inl (cI, 36, .inl g))] H := hP
                      have hD : va_D A [(M, .inr (9, [.int th, .ref mtx, .int (nI len), .int (nI (zsp s8 + 1 + 1 + 1)), .int rt, .int fr, .int pr, .ref mod_, .int (nI n), .ref mne, .ref mro, .int (nI m), .int rrt, .int rfr, .int rpr, .ref mrod, .int (nI (zsn s8)), .ref mrne, .ref mrro, .int (nI (zsm s8)), .ref mrp, .ref mpg, .ref mbk, .int (nI ac), .ref mke, .ref mik, .int (nI cr), .ref mrw, .ref mrd, .long sd, .ref mtr, .ref mwo, .ref mnx, .int jr])), (mtx, .inl (cI, 64, .inl bf)), (mrne, .inl (cI, 5, .inl mv)), (mrro, .inl (cI, 5, .inl (upd (upd md (zdg bf (zsp s8 + 1)) ((md (zdg bf (zsp s8 + 1))) ||| (zbit (zdg bf (zsp s8 + 2))))) (zdg bf (zsp s8 + 2)) (((upd md (zdg bf (zsp s8 + 1)) ((md (zdg bf (zsp s8 + 1))) ||| (zbit (zdg bf (zsp s8 + 2))))) (zdg bf (zsp s8 + 2))) ||| (zbit (zdg bf (zsp s8 + 1))))))), (mrp, .inl (cI, 36, .inl g))] := hD
                      refine lv_aload_n hx hb dX9_readPart_361 rfl (lv_at hl 3 rfl) ?_
                      refine lv_dup hx hb dX9_readPart_362 rfl ?_
                      refine z_get (ci := 9) (v := .int (nI (zsm s8))) Z zin9 hP 0 rfl rfl 19 (by decide) zm696 rfl rfl dX9_readPart_363 ?_
                      refine lv_iconst (v := nI 1) hx hb dX9_readPart_366 (by decide) ?_
                      refine lv_iadd hx hb dX9_readPart_367 ?_
                      refine z_top (y := nI (zsm s8 + 1)) (z_add _ _) ?_
                      refine z_put (ci := 9) (v := .int (nI (zsm s8 + 1))) Z zin9 tyX9 tyX9_ok nmX9 hP hD hS 0 rfl rfl 19 (by decide) zm696 rfl rfl rfl rfl (Nat.le_of_ble_eq_true rfl) dX9_readPart_368 (fun H locs hP hD hS => ?_)
                      have hP : va_P D vwCl [(M, .inr (9, [.int th, .ref mtx, .int (nI len), .int (nI (zsp s8 + 1 + 1 + 1)), .int rt, .int fr, .int pr, .ref mod_, .int (nI n), .ref mne, .ref mro, .int (nI m), .int rrt, .int rfr, .int rpr, .ref mrod, .int (nI (zsn s8)), .ref mrne, .ref mrro, .int (nI (zsm s8 + 1)), .ref mrp, .ref mpg, .ref mbk, .int (nI ac), .ref mke, .ref mik, .int (nI cr), .ref mrw, .ref mrd, .long sd, .ref mtr, .ref mwo, .ref mnx, .int jr])), (mtx, .inl (cI, 64, .inl bf)), (mrne, .inl (cI, 5, .inl mv)), (mrro, .inl (cI, 5, .inl (upd (upd md (zdg bf (zsp s8 + 1)) ((md (zdg bf (zsp s8 + 1))) ||| (zbit (zdg bf (zsp s8 + 2))))) (zdg bf (zsp s8 + 2)) (((upd md (zdg bf (zsp s8 + 1)) ((md (zdg bf (zsp s8 + 1))) ||| (zbit (zdg bf (zsp s8 + 2))))) (zdg bf (zsp s8 + 2))) ||| (zbit (zdg bf (zsp s8 + 1))))))), (mrp, .inl (cI, 36, .inl g))] H := hP
                      have hD : va_D A [(M, .inr (9, [.int th, .ref mtx, .int (nI len), .int (nI (zsp s8 + 1 + 1 + 1)), .int rt, .int fr, .int pr, .ref mod_, .int (nI n), .ref mne, .ref mro, .int (nI m), .int rrt, .int rfr, .int rpr, .ref mrod, .int (nI (zsn s8)), .ref mrne, .ref mrro, .int (nI (zsm s8 + 1)), .ref mrp, .ref mpg, .ref mbk, .int (nI ac), .ref mke, .ref mik, .int (nI cr), .ref mrw, .ref mrd, .long sd, .ref mtr, .ref mwo, .ref mnx, .int jr])), (mtx, .inl (cI, 64, .inl bf)), (mrne, .inl (cI, 5, .inl mv)), (mrro, .inl (cI, 5, .inl (upd (upd md (zdg bf (zsp s8 + 1)) ((md (zdg bf (zsp s8 + 1))) ||| (zbit (zdg bf (zsp s8 + 2))))) (zdg bf (zsp s8 + 2)) (((upd md (zdg bf (zsp s8 + 1)) ((md (zdg bf (zsp s8 + 1))) ||| (zbit (zdg bf (zsp s8 + 2))))) (zdg bf (zsp s8 + 2))) ||| (zbit (zdg bf (zsp s8 + 1))))))), (mrp, .inl (cI, 36, .inl g))] := hD
                      have hcq := zoD_2 ho0 ho1
                      refine lv_iconst (v := nI 1) hx hb dX9_readPart_371 (by decide) ?_
                      have e_36 : nI (zsp s8 + 1 + 1 + 1) = nI (zsQ bf len s8) := by first | (rw [hqa, if_neg (by rw [decide_eq_true_eq]; exact hcn.2)]; done) | (rw [hqa, if_neg (by rw [decide_eq_true_eq]; exact hcn.2)]; rfl) | (rw [hqa, if_pos (decide_eq_true h6)]; rfl) | (rw [hqa, if_neg (by rw [decide_eq_true_eq, hcq]; decide)]; rfl) | (rw [hqa, if_pos (decide_eq_true hcq)]; rfl) | (rw [hqa]; rfl) | (rw [hqq, hcn.1]; done) | (rw [hqq, h6]; done) | (rw [hqq, hcq]; done) | (rw [hqq]; done)
                      have hP : va_P D vwCl [(M, .inr (9, [.int th, .ref mtx, .int (nI len), .int (nI (zsQ bf len s8)), .int rt, .int fr, .int pr, .ref mod_, .int (nI n), .ref mne, .ref mro, .int (nI m), .int rrt, .int rfr, .int rpr, .ref mrod, .int (nI (zsn s8)), .ref mrne, .ref mrro, .int (nI (zsm s8 + 1)), .ref mrp, .ref mpg, .ref mbk, .int (nI ac), .ref mke, .ref mik, .int (nI cr), .ref mrw, .ref mrd, .long sd, .ref mtr, .ref mwo, .ref mnx, .int jr])), (mtx, .inl (cI, 64, .inl bf)), (mrne, .inl (cI, 5, .inl mv)), (mrro, .inl (cI, 5, .inl (upd (upd md (zdg bf (zsp s8 + 1)) ((md (zdg bf (zsp s8 + 1))) ||| (zbit (zdg bf (zsp s8 + 2))))) (zdg bf (zsp s8 + 2)) (((upd md (zdg bf (zsp s8 + 1)) ((md (zdg bf (zsp s8 + 1))) ||| (zbit (zdg bf (zsp s8 + 2))))) (zdg bf (zsp s8 + 2))) ||| (zbit (zdg bf (zsp s8 + 1))))))), (mrp, .inl (cI, 36, .inl g))] H := Eq.subst (motive := fun zz_ => va_P D vwCl [(M, .inr (9, [.int th, .ref mtx, .int (nI len), .int zz_, .int rt, .int fr, .int pr, .ref mod_, .int (nI n), .ref mne, .ref mro, .int (nI m), .int rrt, .int rfr, .int rpr, .ref mrod, .int (nI (zsn s8)), .ref mrne, .ref mrro, .int (nI (zsm s8 + 1)), .ref mrp, .ref mpg, .ref mbk, .int (nI ac), .ref mke, .ref mik, .int (nI cr), .ref mrw, .ref mrd, .long sd, .ref mtr, .ref mwo, .ref mnx, .int jr])), (mtx, .inl (cI, 64, .inl bf)), (mrne, .inl (cI, 5, .inl mv)), (mrro, .inl (cI, 5, .inl (upd (upd md (zdg bf (zsp s8 + 1)) ((md (zdg bf (zsp s8 + 1))) ||| (zbit (zdg bf (zsp s8 + 2))))) (zdg bf (zsp s8 + 2)) (((upd md (zdg bf (zsp s8 + 1)) ((md (zdg bf (zsp s8 + 1))) ||| (zbit (zdg bf (zsp s8 + 2))))) (zdg bf (zsp s8 + 2))) ||| (zbit (zdg bf (zsp s8 + 1))))))), (mrp, .inl (cI, 36, .inl g))] H) e_36 hP
                      have hD : va_D A [(M, .inr (9, [.int th, .ref mtx, .int (nI len), .int (nI (zsQ bf len s8)), .int rt, .int fr, .int pr, .ref mod_, .int (nI n), .ref mne, .ref mro, .int (nI m), .int rrt, .int rfr, .int rpr, .ref mrod, .int (nI (zsn s8)), .ref mrne, .ref mrro, .int (nI (zsm s8 + 1)), .ref mrp, .ref mpg, .ref mbk, .int (nI ac), .ref mke, .ref mik, .int (nI cr), .ref mrw, .ref mrd, .long sd, .ref mtr, .ref mwo, .ref mnx, .int jr])), (mtx, .inl (cI, 64, .inl bf)), (mrne, .inl (cI, 5, .inl mv)), (mrro, .inl (cI, 5, .inl (upd (upd md (zdg bf (zsp s8 + 1)) ((md (zdg bf (zsp s8 + 1))) ||| (zbit (zdg bf (zsp s8 + 2))))) (zdg bf (zsp s8 + 2)) (((upd md (zdg bf (zsp s8 + 1)) ((md (zdg bf (zsp s8 + 1))) ||| (zbit (zdg bf (zsp s8 + 2))))) (zdg bf (zsp s8 + 2))) ||| (zbit (zdg bf (zsp s8 + 1))))))), (mrp, .inl (cI, 36, .inl g))] := zD_of hD rfl
                      exact z_zret Z (zsn s8, zsm s8 + 1, mv, upd (upd md (zdg bf (zsp s8 + 1)) ((md (zdg bf (zsp s8 + 1))) ||| (zbit (zdg bf (zsp s8 + 2))))) (zdg bf (zsp s8 + 2)) (((upd md (zdg bf (zsp s8 + 1)) ((md (zdg bf (zsp s8 + 1))) ||| (zbit (zdg bf (zsp s8 + 2))))) (zdg bf (zsp s8 + 2))) ||| (zbit (zdg bf (zsp s8 + 1)))), g) (by decide) ⟨(by first | (rw [hqa, if_neg (by rw [decide_eq_true_eq]; exact hcn.2)]; done) | (rw [hqa, if_neg (by rw [decide_eq_true_eq]; exact hcn.2)]; rfl) | (rw [hqa, if_pos (decide_eq_true h6)]; rfl) | (rw [hqa, if_neg (by rw [decide_eq_true_eq, hcq]; decide)]; rfl) | (rw [hqa, if_pos (decide_eq_true hcq)]; rfl) | (rw [hqa]; rfl) | (rw [hqq, hcn.1]; done) | (rw [hqq, h6]; done) | (rw [hqq, hcq]; done) | (rw [hqq]; done)), (by first | (intro z; rw [hqa, decide_eq_true_eq] at z; exact absurd z hcn.2) | exact fun _ => ⟨by rw [zsS_P hq8]; rfl, by rw [zsS_P hq8]; rfl, zmR_P hq8 hI hR⟩ | (intro z; rw [hqa, decide_eq_true_eq, hcq] at z; exact absurd z (by decide)) | exact fun _ => ⟨by rw [zsS_R hq9]; rfl, by rw [zsS_R hq9]; rfl, zmR_R hq9 (by omega) (by omega) hR⟩ | (intro z; rw [hqa] at z; exact absurd z (by decide)))⟩ hP hS dX9_readPart_372
                    · have c_35 := zb0 c_35
                      have ho1 : ¬ zoD bf len (zsn s8) (zsd s8) (zsp s8 + 1) 1 = true := fun z => c_35 (by rw [hze]; exact (zoD_1j z).2)
                      have hcq := zoD_1n ho0 ho1
                      refine lv_iconst (v := nI 0) hx hb dX9_readPart_325 (by decide) ?_
                      have e_37 : nI (zsp s8 + 1 + 1) = nI (zsQ bf len s8) := by first | (rw [hqa, if_neg (by rw [decide_eq_true_eq]; exact hcn.2)]; done) | (rw [hqa, if_neg (by rw [decide_eq_true_eq]; exact hcn.2)]; rfl) | (rw [hqa, if_pos (decide_eq_true h6)]; rfl) | (rw [hqa, if_neg (by rw [decide_eq_true_eq, hcq]; decide)]; rfl) | (rw [hqa, if_pos (decide_eq_true hcq)]; rfl) | (rw [hqa]; rfl) | (rw [hqq, hcn.1]; done) | (rw [hqq, h6]; done) | (rw [hqq, hcq]; done) | (rw [hqq]; done)
                      have hP : va_P D vwCl [(M, .inr (9, [.int th, .ref mtx, .int (nI len), .int (nI (zsQ bf len s8)), .int rt, .int fr, .int pr, .ref mod_, .int (nI n), .ref mne, .ref mro, .int (nI m), .int rrt, .int rfr, .int rpr, .ref mrod, .int (nI (zsn s8)), .ref mrne, .ref mrro, .int (nI (zsm s8)), .ref mrp, .ref mpg, .ref mbk, .int (nI ac), .ref mke, .ref mik, .int (nI cr), .ref mrw, .ref mrd, .long sd, .ref mtr, .ref mwo, .ref mnx, .int jr])), (mtx, .inl (cI, 64, .inl bf)), (mrne, .inl (cI, 5, .inl mv)), (mrro, .inl (cI, 5, .inl md)), (mrp, .inl (cI, 36, .inl g))] H := Eq.subst (motive := fun zz_ => va_P D vwCl [(M, .inr (9, [.int th, .ref mtx, .int (nI len), .int zz_, .int rt, .int fr, .int pr, .ref mod_, .int (nI n), .ref mne, .ref mro, .int (nI m), .int rrt, .int rfr, .int rpr, .ref mrod, .int (nI (zsn s8)), .ref mrne, .ref mrro, .int (nI (zsm s8)), .ref mrp, .ref mpg, .ref mbk, .int (nI ac), .ref mke, .ref mik, .int (nI cr), .ref mrw, .ref mrd, .long sd, .ref mtr, .ref mwo, .ref mnx, .int jr])), (mtx, .inl (cI, 64, .inl bf)), (mrne, .inl (cI, 5, .inl mv)), (mrro, .inl (cI, 5, .inl md)), (mrp, .inl (cI, 36, .inl g))] H) e_37 hP
                      have hD : va_D A [(M, .inr (9, [.int th, .ref mtx, .int (nI len), .int (nI (zsQ bf len s8)), .int rt, .int fr, .int pr, .ref mod_, .int (nI n), .ref mne, .ref mro, .int (nI m), .int rrt, .int rfr, .int rpr, .ref mrod, .int (nI (zsn s8)), .ref mrne, .ref mrro, .int (nI (zsm s8)), .ref mrp, .ref mpg, .ref mbk, .int (nI ac), .ref mke, .ref mik, .int (nI cr), .ref mrw, .ref mrd, .long sd, .ref mtr, .ref mwo, .ref mnx, .int jr])), (mtx, .inl (cI, 64, .inl bf)), (mrne, .inl (cI, 5, .inl mv)), (mrro, .inl (cI, 5, .inl md)), (mrp, .inl (cI, 36, .inl g))] := zD_of hD rfl
                      exact z_zret Z (zsn s8, zsm s8, mv, md, g) (by decide) ⟨(by first | (rw [hqa, if_neg (by rw [decide_eq_true_eq]; exact hcn.2)]; done) | (rw [hqa, if_neg (by rw [decide_eq_true_eq]; exact hcn.2)]; rfl) | (rw [hqa, if_pos (decide_eq_true h6)]; rfl) | (rw [hqa, if_neg (by rw [decide_eq_true_eq, hcq]; decide)]; rfl) | (rw [hqa, if_pos (decide_eq_true hcq)]; rfl) | (rw [hqa]; rfl) | (rw [hqq, hcn.1]; done) | (rw [hqq, h6]; done) | (rw [hqq, hcq]; done) | (rw [hqq]; done)), (by first | (intro z; rw [hqa, decide_eq_true_eq] at z; exact absurd z hcn.2) | exact fun _ => ⟨by rw [zsS_P hq8]; rfl, by rw [zsS_P hq8]; rfl, zmR_P hq8 hI hR⟩ | (intro z; rw [hqa, decide_eq_true_eq, hcq] at z; exact absurd z (by decide)) | exact fun _ => ⟨by rw [zsS_R hq9]; rfl, by rw [zsS_R hq9]; rfl, zmR_R hq9 (by omega) (by omega) hR⟩ | (intro z; rw [hqa] at z; exact absurd z (by decide)))⟩ hP hS dX9_readPart_326
              · have c_21 : (zren (zsn s8) md (zdg bf (zsp s8 + 1))) = 0 := c_21
                have ho0 : ¬ zoD bf len (zsn s8) (zsd s8) (zsp s8 + 1) 0 = true := fun z => (zoD_0j z).2 (by rw [← hze]; exact c_21)
                have hcq := zoD_0n ho0
                refine lv_iconst (v := nI 0) hx hb dX9_readPart_256 (by decide) ?_
                have e_38 : nI (zsp s8 + 1) = nI (zsQ bf len s8) := by first | (rw [hqa, if_neg (by rw [decide_eq_true_eq]; exact hcn.2)]; done) | (rw [hqa, if_neg (by rw [decide_eq_true_eq]; exact hcn.2)]; rfl) | (rw [hqa, if_pos (decide_eq_true h6)]; rfl) | (rw [hqa, if_neg (by rw [decide_eq_true_eq, hcq]; decide)]; rfl) | (rw [hqa, if_pos (decide_eq_true hcq)]; rfl) | (rw [hqa]; rfl) | (rw [hqq, hcn.1]; done) | (rw [hqq, h6]; done) | (rw [hqq, hcq]; done) | (rw [hqq]; done)
                have hP : va_P D vwCl [(M, .inr (9, [.int th, .ref mtx, .int (nI len), .int (nI (zsQ bf len s8)), .int rt, .int fr, .int pr, .ref mod_, .int (nI n), .ref mne, .ref mro, .int (nI m), .int rrt, .int rfr, .int rpr, .ref mrod, .int (nI (zsn s8)), .ref mrne, .ref mrro, .int (nI (zsm s8)), .ref mrp, .ref mpg, .ref mbk, .int (nI ac), .ref mke, .ref mik, .int (nI cr), .ref mrw, .ref mrd, .long sd, .ref mtr, .ref mwo, .ref mnx, .int jr])), (mtx, .inl (cI, 64, .inl bf)), (mrne, .inl (cI, 5, .inl mv)), (mrro, .inl (cI, 5, .inl md)), (mrp, .inl (cI, 36, .inl g))] H := Eq.subst (motive := fun zz_ => va_P D vwCl [(M, .inr (9, [.int th, .ref mtx, .int (nI len), .int zz_, .int rt, .int fr, .int pr, .ref mod_, .int (nI n), .ref mne, .ref mro, .int (nI m), .int rrt, .int rfr, .int rpr, .ref mrod, .int (nI (zsn s8)), .ref mrne, .ref mrro, .int (nI (zsm s8)), .ref mrp, .ref mpg, .ref mbk, .int (nI ac), .ref mke, .ref mik, .int (nI cr), .ref mrw, .ref mrd, .long sd, .ref mtr, .ref mwo, .ref mnx, .int jr])), (mtx, .inl (cI, 64, .inl bf)), (mrne, .inl (cI, 5, .inl mv)), (mrro, .inl (cI, 5, .inl md)), (mrp, .inl (cI, 36, .inl g))] H) e_38 hP
                have hD : va_D A [(M, .inr (9, [.int th, .ref mtx, .int (nI len), .int (nI (zsQ bf len s8)), .int rt, .int fr, .int pr, .ref mod_, .int (nI n), .ref mne, .ref mro, .int (nI m), .int rrt, .int rfr, .int rpr, .ref mrod, .int (nI (zsn s8)), .ref mrne, .ref mrro, .int (nI (zsm s8)), .ref mrp, .ref mpg, .ref mbk, .int (nI ac), .ref mke, .ref mik, .int (nI cr), .ref mrw, .ref mrd, .long sd, .ref mtr, .ref mwo, .ref mnx, .int jr])), (mtx, .inl (cI, 64, .inl bf)), (mrne, .inl (cI, 5, .inl mv)), (mrro, .inl (cI, 5, .inl md)), (mrp, .inl (cI, 36, .inl g))] := zD_of hD rfl
                exact z_zret Z (zsn s8, zsm s8, mv, md, g) (by decide) ⟨(by first | (rw [hqa, if_neg (by rw [decide_eq_true_eq]; exact hcn.2)]; done) | (rw [hqa, if_neg (by rw [decide_eq_true_eq]; exact hcn.2)]; rfl) | (rw [hqa, if_pos (decide_eq_true h6)]; rfl) | (rw [hqa, if_neg (by rw [decide_eq_true_eq, hcq]; decide)]; rfl) | (rw [hqa, if_pos (decide_eq_true hcq)]; rfl) | (rw [hqa]; rfl) | (rw [hqq, hcn.1]; done) | (rw [hqq, h6]; done) | (rw [hqq, hcq]; done) | (rw [hqq]; done)), (by first | (intro z; rw [hqa, decide_eq_true_eq] at z; exact absurd z hcn.2) | exact fun _ => ⟨by rw [zsS_P hq8]; rfl, by rw [zsS_P hq8]; rfl, zmR_P hq8 hI hR⟩ | (intro z; rw [hqa, decide_eq_true_eq, hcq] at z; exact absurd z (by decide)) | exact fun _ => ⟨by rw [zsS_R hq9]; rfl, by rw [zsS_R hq9]; rfl, zmR_R hq9 (by omega) (by omega) hR⟩ | (intro z; rw [hqa] at z; exact absurd z (by decide)))⟩ hP hS dX9_readPart_257
  · skip
    refine lv_iload_n hx hb dX9_readPart_10 rfl (lv_at hl 0 rfl) ?_
    refine lv_bipush (v := nI 80) hx hb dX9_readPart_11 (by decide) ?_
    refine lv_icmp_ne (tgt := 171) hx hb dX9_readPart_13 (by decide) (fun c_39 => ?_) (fun c_39 => ?_)
    · have c_39 : ¬ ((bf (zsp s8)) = 80) := c_39
      have hl : lv_has ls 4 [(1, .int (bf (zsp s8))), (0, .ref M)] := lv_sub hl [0, 1] rfl
      exact k_1 _ _ _ ⟨hP, hD, hS, hl, (by first | exact fun z => absurd z.1 (by assumption) | exact fun z => absurd z.2 (by omega))⟩
    · have c_39 : (bf (zsp s8)) = 80 := c_39
      have hb1 := c_39
      refine lv_aload_n hx hb dX9_readPart_16 rfl (lv_at hl 1 rfl) ?_
      refine z_get (ci := 9) (v := .int (nI (zsn s8))) Z zin9 hP 0 rfl rfl 16 (by decide) zm693 rfl rfl dX9_readPart_17 ?_
      refine lv_iconst (v := nI 5) hx hb dX9_readPart_20 (by decide) ?_
      refine lv_icmp_ge (tgt := 171) hx hb dX9_readPart_21 (by decide) (fun c_40 => ?_) (fun c_40 => ?_)
      · have c_40 := zle (i := 5) (j := zsn s8) (by decide) (by omega) c_40
        have hl : lv_has ls 4 [(1, .int (bf (zsp s8))), (0, .ref M)] := lv_sub hl [0, 1] rfl
        exact k_1 _ _ _ ⟨hP, hD, hS, hl, (by first | exact fun z => absurd z.1 (by assumption) | exact fun z => absurd z.2 (by omega))⟩
      · have c_40 := znle (i := 5) (j := zsn s8) (by decide) (by omega) c_40
        have hq8 : zisP bf s8 := ⟨hb1, by omega⟩
        have hqa := zsA_P (len := len) hq8
        have hqq := zsQ_P (len := len) hq8
        refine lv_aload_n hx hb dX9_readPart_24 rfl (lv_at hl 1 rfl) ?_
        refine lv_dup hx hb dX9_readPart_25 rfl ?_
        refine z_get (ci := 9) (v := .int (nI (zsp s8))) Z zin9 hP 0 rfl rfl 3 (by decide) zm680 rfl rfl dX9_readPart_26 ?_
        refine lv_iconst (v := nI 1) hx hb dX9_readPart_29 (by decide) ?_
        refine lv_iadd hx hb dX9_readPart_30 ?_
        refine z_top (y := nI (zsp s8 + 1)) (z_add _ _) ?_
        refine z_put (ci := 9) (v := .int (nI (zsp s8 + 1))) Z zin9 tyX9 tyX9_ok nmX9 hP hD hS 0 rfl rfl 3 (by decide) zm680 rfl rfl rfl rfl (Nat.le_of_ble_eq_true rfl) dX9_readPart_31 (fun H locs hP hD hS => ?_)
        have hP : va_P D vwCl [(M, .inr (9, [.int th, .ref mtx, .int (nI len), .int (nI (zsp s8 + 1)), .int rt, .int fr, .int pr, .ref mod_, .int (nI n), .ref mne, .ref mro, .int (nI m), .int rrt, .int rfr, .int rpr, .ref mrod, .int (nI (zsn s8)), .ref mrne, .ref mrro, .int (nI (zsm s8)), .ref mrp, .ref mpg, .ref mbk, .int (nI ac), .ref mke, .ref mik, .int (nI cr), .ref mrw, .ref mrd, .long sd, .ref mtr, .ref mwo, .ref mnx, .int jr])), (mtx, .inl (cI, 64, .inl bf)), (mrne, .inl (cI, 5, .inl mv)), (mrro, .inl (cI, 5, .inl md)), (mrp, .inl (cI, 36, .inl g))] H := hP
        have hD : va_D A [(M, .inr (9, [.int th, .ref mtx, .int (nI len), .int (nI (zsp s8 + 1)), .int rt, .int fr, .int pr, .ref mod_, .int (nI n), .ref mne, .ref mro, .int (nI m), .int rrt, .int rfr, .int rpr, .ref mrod, .int (nI (zsn s8)), .ref mrne, .ref mrro, .int (nI (zsm s8)), .ref mrp, .ref mpg, .ref mbk, .int (nI ac), .ref mke, .ref mik, .int (nI cr), .ref mrw, .ref mrd, .long sd, .ref mtr, .ref mwo, .ref mnx, .int jr])), (mtx, .inl (cI, 64, .inl bf)), (mrne, .inl (cI, 5, .inl mv)), (mrro, .inl (cI, 5, .inl md)), (mrp, .inl (cI, 36, .inl g))] := hD
        refine lv_aload_n hx hb dX9_readPart_34 rfl (lv_at hl 1 rfl) ?_
        refine lv_aload_n hx hb dX9_readPart_35 rfl (lv_at hl 1 rfl) ?_
        refine z_get (ci := 9) (v := .ref mrp) Z zin9 hP 0 rfl rfl 20 (by decide) zm697 rfl rfl dX9_readPart_36 ?_
        refine lv_bipush (v := nI 7) hx hb dX9_readPart_39 (by decide) ?_
        refine lv_aload_n hx hb dX9_readPart_41 rfl (lv_at hl 1 rfl) ?_
        refine z_get (ci := 9) (v := .int (nI (zsn s8))) Z zin9 hP 0 rfl rfl 16 (by decide) zm693 rfl rfl dX9_readPart_42 ?_
        refine lv_imul hx hb dX9_readPart_45 ?_
        refine z_top (y := nI (7 * (zsn s8))) (z_mul _ _) ?_
        refine z_callVi (As := [.ref mrp, .int (nI (7 * (zsn s8)))]) (rest := []) (ci := 9) (k0 := 0) Z hP hD hS hl.1 (zc_X9_readTenB l D cI cZ M th mtx len (zsp s8 + 1) rt fr pr mod_ n mne mro m rrt rfr rpr mrod (zsn s8) mrne mrro (zsm s8) mrp mpg mbk ac mke mik cr mrw mrd sd mtr mwo mnx jr bf mrp g (7 * (zsn s8)) (by omega) (by omega) (by omega)) zm767 zm768 zm14 zm39 zm769 ⟨rfl, zd_X9_readTen⟩ ⟨Nat.le_of_ble_eq_true rfl, Nat.le_of_ble_eq_true rfl⟩ ⟨Nat.zero_le _, Nat.zero_le _⟩ [0, 1, 4] rfl (by decide) rfl rfl rfl (fun _ => rfl) rfl (Nat.le_of_ble_eq_true rfl) rfl dX9_readPart_46 (fun r_41 u H locs h_42 hP hD hS => ?_)
        obtain ⟨te2_43, rfl⟩ : ∃ z, z = u := ⟨_, rfl⟩
        have hP : va_P D vwCl [(M, .inr (9, [.int th, .ref mtx, .int (nI len), .int (nI ((zsp s8 + 1) + zcq (zoT bf len (zsp s8 + 1)) 4)), .int rt, .int fr, .int pr, .ref mod_, .int (nI n), .ref mne, .ref mro, .int (nI m), .int rrt, .int rfr, .int rpr, .ref mrod, .int (nI (zsn s8)), .ref mrne, .ref mrro, .int (nI (zsm s8)), .ref mrp, .ref mpg, .ref mbk, .int (nI ac), .ref mke, .ref mik, .int (nI cr), .ref mrw, .ref mrd, .long sd, .ref mtr, .ref mwo, .ref mnx, .int jr])), (mtx, .inl (cI, 64, .inl bf)), (mrne, .inl (cI, 5, .inl mv)), (mrro, .inl (cI, 5, .inl md)), (mrp, .inl (cI, 36, .inl te2_43))] H := hP
        have hD : va_D A [(M, .inr (9, [.int th, .ref mtx, .int (nI len), .int (nI ((zsp s8 + 1) + zcq (zoT bf len (zsp s8 + 1)) 4)), .int rt, .int fr, .int pr, .ref mod_, .int (nI n), .ref mne, .ref mro, .int (nI m), .int rrt, .int rfr, .int rpr, .ref mrod, .int (nI (zsn s8)), .ref mrne, .ref mrro, .int (nI (zsm s8)), .ref mrp, .ref mpg, .ref mbk, .int (nI ac), .ref mke, .ref mik, .int (nI cr), .ref mrw, .ref mrd, .long sd, .ref mtr, .ref mwo, .ref mnx, .int jr])), (mtx, .inl (cI, 64, .inl bf)), (mrne, .inl (cI, 5, .inl mv)), (mrro, .inl (cI, 5, .inl md)), (mrp, .inl (cI, 36, .inl te2_43))] := hD
        obtain ⟨h_42_0, h_42_1⟩ := h_42
        have h_42_0 : r_41 = if zcq (zoT bf len (zsp s8 + 1)) 4 = 4 then 1 else 0 := h_42_0
        subst h_42_0
        have h_42_1 : zcq (zoT bf len (zsp s8 + 1)) 4 = 4 → te2_43 = zpu g (7 * (zsn s8)) (zpd bf (zsp s8 + 1)) 4 := h_42_1
        refine lv_if_ne (tgt := 54) hx hb dX9_readPart_49 (by decide) (fun c_44 => ?_) (fun c_44 => ?_)
        · have c_44 := zb1 c_44
          have h44 := c_44
          have hl4 := zqT_len h44
          have e_45 : nI ((zsp s8 + 1) + zcq (zoT bf len (zsp s8 + 1)) 4) = nI (zsp s8 + 1 + 4) := by rw [h44]
          have hP : va_P D vwCl [(M, .inr (9, [.int th, .ref mtx, .int (nI len), .int (nI (zsp s8 + 1 + 4)), .int rt, .int fr, .int pr, .ref mod_, .int (nI n), .ref mne, .ref mro, .int (nI m), .int rrt, .int rfr, .int rpr, .ref mrod, .int (nI (zsn s8)), .ref mrne, .ref mrro, .int (nI (zsm s8)), .ref mrp, .ref mpg, .ref mbk, .int (nI ac), .ref mke, .ref mik, .int (nI cr), .ref mrw, .ref mrd, .long sd, .ref mtr, .ref mwo, .ref mnx, .int jr])), (mtx, .inl (cI, 64, .inl bf)), (mrne, .inl (cI, 5, .inl mv)), (mrro, .inl (cI, 5, .inl md)), (mrp, .inl (cI, 36, .inl te2_43))] H := Eq.subst (motive := fun zz_ => va_P D vwCl [(M, .inr (9, [.int th, .ref mtx, .int (nI len), .int zz_, .int rt, .int fr, .int pr, .ref mod_, .int (nI n), .ref mne, .ref mro, .int (nI m), .int rrt, .int rfr, .int rpr, .ref mrod, .int (nI (zsn s8)), .ref mrne, .ref mrro, .int (nI (zsm s8)), .ref mrp, .ref mpg, .ref mbk, .int (nI ac), .ref mke, .ref mik, .int (nI cr), .ref mrw, .ref mrd, .long sd, .ref mtr, .ref mwo, .ref mnx, .int jr])), (mtx, .inl (cI, 64, .inl bf)), (mrne, .inl (cI, 5, .inl mv)), (mrro, .inl (cI, 5, .inl md)), (mrp, .inl (cI, 36, .inl te2_43))] H) e_45 hP
          have hD : va_D A [(M, .inr (9, [.int th, .ref mtx, .int (nI len), .int (nI (zsp s8 + 1 + 4)), .int rt, .int fr, .int pr, .ref mod_, .int (nI n), .ref mne, .ref mro, .int (nI m), .int rrt, .int rfr, .int rpr, .ref mrod, .int (nI (zsn s8)), .ref mrne, .ref mrro, .int (nI (zsm s8)), .ref mrp, .ref mpg, .ref mbk, .int (nI ac), .ref mke, .ref mik, .int (nI cr), .ref mrw, .ref mrd, .long sd, .ref mtr, .ref mwo, .ref mnx, .int jr])), (mtx, .inl (cI, 64, .inl bf)), (mrne, .inl (cI, 5, .inl mv)), (mrro, .inl (cI, 5, .inl md)), (mrp, .inl (cI, 36, .inl te2_43))] := zD_of hD rfl
          have hte := h_42_1
          refine lv_aload_n hx hb dX9_readPart_54 rfl (lv_at hl 1 rfl) ?_
          refine lv_iconst (v := nI 0) hx hb dX9_readPart_55 (by decide) ?_
          refine lv_bipush (v := nI 9) hx hb dX9_readPart_56 (by decide) ?_
          refine z_callVi (As := [.int (nI 0), .int (nI 9)]) (rest := []) (ci := 9) (k0 := 0) Z hP hD hS hl.1 (zc_X9_figure l D cI cZ M th mtx len (zsp s8 + 1 + 4) rt fr pr mod_ n mne mro m rrt rfr rpr mrod (zsn s8) mrne mrro (zsm s8) mrp mpg mbk ac mke mik cr mrw mrd sd mtr mwo mnx jr bf 0 9 (by omega) (by omega) (by omega) (by omega)) zm764 zm765 zm13 zm39 zm766 ⟨rfl, zd_X9_figure⟩ ⟨Nat.le_of_ble_eq_true rfl, Nat.le_of_ble_eq_true rfl⟩ ⟨Nat.zero_le _, Nat.zero_le _⟩ [0, 1] rfl (by decide) rfl rfl rfl (fun _ => rfl) rfl (Nat.le_of_ble_eq_true rfl) rfl dX9_readPart_58 (fun r_46 u H locs h_47 hP hD hS => ?_)
          have hP : va_P D vwCl [(M, .inr (9, [.int th, .ref mtx, .int (nI len), .int (nI (if zoR bf len (zsp s8 + 1 + 4) 0 9 = true then (zsp s8 + 1 + 4) + 1 else (zsp s8 + 1 + 4))), .int rt, .int fr, .int pr, .ref mod_, .int (nI n), .ref mne, .ref mro, .int (nI m), .int rrt, .int rfr, .int rpr, .ref mrod, .int (nI (zsn s8)), .ref mrne, .ref mrro, .int (nI (zsm s8)), .ref mrp, .ref mpg, .ref mbk, .int (nI ac), .ref mke, .ref mik, .int (nI cr), .ref mrw, .ref mrd, .long sd, .ref mtr, .ref mwo, .ref mnx, .int jr])), (mtx, .inl (cI, 64, .inl bf)), (mrne, .inl (cI, 5, .inl mv)), (mrro, .inl (cI, 5, .inl md)), (mrp, .inl (cI, 36, .inl te2_43))] H := hP
          have hD : va_D A [(M, .inr (9, [.int th, .ref mtx, .int (nI len), .int (nI (if zoR bf len (zsp s8 + 1 + 4) 0 9 = true then (zsp s8 + 1 + 4) + 1 else (zsp s8 + 1 + 4))), .int rt, .int fr, .int pr, .ref mod_, .int (nI n), .ref mne, .ref mro, .int (nI m), .int rrt, .int rfr, .int rpr, .ref mrod, .int (nI (zsn s8)), .ref mrne, .ref mrro, .int (nI (zsm s8)), .ref mrp, .ref mpg, .ref mbk, .int (nI ac), .ref mke, .ref mik, .int (nI cr), .ref mrw, .ref mrd, .long sd, .ref mtr, .ref mwo, .ref mnx, .int jr])), (mtx, .inl (cI, 64, .inl bf)), (mrne, .inl (cI, 5, .inl mv)), (mrro, .inl (cI, 5, .inl md)), (mrp, .inl (cI, 36, .inl te2_43))] := hD
          have h_47 : r_46 = if zoR bf len (zsp s8 + 1 + 4) 0 9 = true then nI (zdg bf (zsp s8 + 1 + 4)) else -9 := h_47
          subst h_47
          refine lv_istore_n (lv' := [(2, .int (if zoR bf len (zsp s8 + 1 + 4) 0 9 = true then nI (zdg bf (zsp s8 + 1 + 4)) else -9)), (1, .int (bf (zsp s8))), (0, .ref M)]) hx hb dX9_readPart_61 rfl hl (by decide) rfl (fun ls hl => ?_)
          refine lv_iload_n hx hb dX9_readPart_62 rfl (lv_at hl 0 rfl) ?_
          refine lv_bipush (v := -9) hx hb dX9_readPart_63 (by decide) ?_
          refine lv_icmp_ne (tgt := 73) hx hb dX9_readPart_65 (by decide) (fun c_48 => ?_) (fun c_48 => ?_)
          · have c_48 : ¬ ((if zoR bf len (zsp s8 + 1 + 4) 0 9 = true then nI (zdg bf (zsp s8 + 1 + 4)) else -9) = (-9 : Int32)) := c_48
            have hok := zif9_y c_48
            have h5 := zqP_5 h44 hok
            have hE : (if zoR bf len (zsp s8 + 1 + 4) 0 9 = true then nI (zdg bf (zsp s8 + 1 + 4)) else -9 : Int32) = (nI (zdg bf (zsp s8 + 1 + 4))) := if_pos hok
            have hl : lv_has ls 4 [(2, .int (nI (zdg bf (zsp s8 + 1 + 4)))), (1, .int (bf (zsp s8))), (0, .ref M)] := Eq.subst (motive := fun zz_ => lv_has ls 4 [(2, .int zz_), (1, .int (bf (zsp s8))), (0, .ref M)]) hE hl
            have e_49 : nI (if zoR bf len (zsp s8 + 1 + 4) 0 9 = true then (zsp s8 + 1 + 4) + 1 else (zsp s8 + 1 + 4)) = nI (zsp s8 + 1 + 4 + 1) := by rw [if_pos hok]
            have hP : va_P D vwCl [(M, .inr (9, [.int th, .ref mtx, .int (nI len), .int (nI (zsp s8 + 1 + 4 + 1)), .int rt, .int fr, .int pr, .ref mod_, .int (nI n), .ref mne, .ref mro, .int (nI m), .int rrt, .int rfr, .int rpr, .ref mrod, .int (nI (zsn s8)), .ref mrne, .ref mrro, .int (nI (zsm s8)), .ref mrp, .ref mpg, .ref mbk, .int (nI ac), .ref mke, .ref mik, .int (nI cr), .ref mrw, .ref mrd, .long sd, .ref mtr, .ref mwo, .ref mnx, .int jr])), (mtx, .inl (cI, 64, .inl bf)), (mrne, .inl (cI, 5, .inl mv)), (mrro, .inl (cI, 5, .inl md)), (mrp, .inl (cI, 36, .inl te2_43))] H := Eq.subst (motive := fun zz_ => va_P D vwCl [(M, .inr (9, [.int th, .ref mtx, .int (nI len), .int zz_, .int rt, .int fr, .int pr, .ref mod_, .int (nI n), .ref mne, .ref mro, .int (nI m), .int rrt, .int rfr, .int rpr, .ref mrod, .int (nI (zsn s8)), .ref mrne, .ref mrro, .int (nI (zsm s8)), .ref mrp, .ref mpg, .ref mbk, .int (nI ac), .ref mke, .ref mik, .int (nI cr), .ref mrw, .ref mrd, .long sd, .ref mtr, .ref mwo, .ref mnx, .int jr])), (mtx, .inl (cI, 64, .inl bf)), (mrne, .inl (cI, 5, .inl mv)), (mrro, .inl (cI, 5, .inl md)), (mrp, .inl (cI, 36, .inl te2_43))] H) e_49 hP
            have hD : va_D A [(M, .inr (9, [.int th, .ref mtx, .int (nI len), .int (nI (zsp s8 + 1 + 4 + 1)), .int rt, .int fr, .int pr, .ref mod_, .int (nI n), .ref mne, .ref mro, .int (nI m), .int rrt, .int rfr, .int rpr, .ref mrod, .int (nI (zsn s8)), .ref mrne, .ref mrro, .int (nI (zsm s8)), .ref mrp, .ref mpg, .ref mbk, .int (nI ac), .ref mke, .ref mik, .int (nI cr), .ref mrw, .ref mrd, .long sd, .ref mtr, .ref mwo, .ref mnx, .int jr])), (mtx, .inl (cI, 64, .inl bf)), (mrne, .inl (cI, 5, .inl mv)), (mrro, .inl (cI, 5, .inl md)), (mrp, .inl (cI, 36, .inl te2_43))] := zD_of hD rfl
            have hd5 := zoR_d hok (by decide) (by decide)
            refine lv_aload_n hx hb dX9_readPart_73 rfl (lv_at hl 2 rfl) ?_
            refine lv_iconst (v := nI 0) hx hb dX9_readPart_74 (by decide) ?_
            refine lv_iconst (v := nI 5) hx hb dX9_readPart_75 (by decide) ?_
            refine z_callVi (As := [.int (nI 0), .int (nI 5)]) (rest := []) (ci := 9) (k0 := 0) Z hP hD hS hl.1 (zc_X9_figure l D cI cZ M th mtx len (zsp s8 + 1 + 4 + 1) rt fr pr mod_ n mne mro m rrt rfr rpr mrod (zsn s8) mrne mrro (zsm s8) mrp mpg mbk ac mke mik cr mrw mrd sd mtr mwo mnx jr bf 0 5 (by omega) (by omega) (by omega) (by omega)) zm764 zm765 zm13 zm39 zm766 ⟨rfl, zd_X9_figure⟩ ⟨Nat.le_of_ble_eq_true rfl, Nat.le_of_ble_eq_true rfl⟩ ⟨Nat.zero_le _, Nat.zero_le _⟩ [0, 1] rfl (by decide) rfl rfl rfl (fun _ => rfl) rfl (Nat.le_of_ble_eq_true rfl) rfl dX9_readPart_76 (fun r_50 u H locs h_51 hP hD hS => ?_)
            have hP : va_P D vwCl [(M, .inr (9, [.int th, .ref mtx, .int (nI len), .int (nI (if zoR bf len (zsp s8 + 1 + 4 + 1) 0 5 = true then (zsp s8 + 1 + 4 + 1) + 1 else (zsp s8 + 1 + 4 + 1))), .int rt, .int fr, .int pr, .ref mod_, .int (nI n), .ref mne, .ref mro, .int (nI m), .int rrt, .int rfr, .int rpr, .ref mrod, .int (nI (zsn s8)), .ref mrne, .ref mrro, .int (nI (zsm s8)), .ref mrp, .ref mpg, .ref mbk, .int (nI ac), .ref mke, .ref mik, .int (nI cr), .ref mrw, .ref mrd, .long sd, .ref mtr, .ref mwo, .ref mnx, .int jr])), (mtx, .inl (cI, 64, .inl bf)), (mrne, .inl (cI, 5, .inl mv)), (mrro, .inl (cI, 5, .inl md)), (mrp, .inl (cI, 36, .inl te2_43))] H := hP
            have hD : va_D A [(M, .inr (9, [.int th, .ref mtx, .int (nI len), .int (nI (if zoR bf len (zsp s8 + 1 + 4 + 1) 0 5 = true then (zsp s8 + 1 + 4 + 1) + 1 else (zsp s8 + 1 + 4 + 1))), .int rt, .int fr, .int pr, .ref mod_, .int (nI n), .ref mne, .ref mro, .int (nI m), .int rrt, .int rfr, .int rpr, .ref mrod, .int (nI (zsn s8)), .ref mrne, .ref mrro, .int (nI (zsm s8)), .ref mrp, .ref mpg, .ref mbk, .int (nI ac), .ref mke, .ref mik, .int (nI cr), .ref mrw, .ref mrd, .long sd, .ref mtr, .ref mwo, .ref mnx, .int jr])), (mtx, .inl (cI, 64, .inl bf)), (mrne, .inl (cI, 5, .inl mv)), (mrro, .inl (cI, 5, .inl md)), (mrp, .inl (cI, 36, .inl te2_43))] := hD
            have h_51 : r_50 = if zoR bf len (zsp s8 + 1 + 4 + 1) 0 5 = true then nI (zdg bf (zsp s8 + 1 + 4 + 1)) else -9 := h_51
            subst h_51
            refine lv_istore_n (lv' := [(3, .int (if zoR bf len (zsp s8 + 1 + 4 + 1) 0 5 = true then nI (zdg bf (zsp s8 + 1 + 4 + 1)) else -9)), (2, .int (nI (zdg bf (zsp s8 + 1 + 4)))), (1, .int (bf (zsp s8))), (0, .ref M)]) hx hb dX9_readPart_79 rfl hl (by decide) rfl (fun ls hl => ?_)
            refine lv_iload_n hx hb dX9_readPart_80 rfl (lv_at hl 0 rfl) ?_
            refine lv_bipush (v := -9) hx hb dX9_readPart_81 (by decide) ?_
            refine lv_icmp_ne (tgt := 88) hx hb dX9_readPart_83 (by decide) (fun c_52 => ?_) (fun c_52 => ?_)
            · have c_52 : ¬ ((if zoR bf len (zsp s8 + 1 + 4 + 1) 0 5 = true then nI (zdg bf (zsp s8 + 1 + 4 + 1)) else -9) = (-9 : Int32)) := c_52
              have hok6 := zif9_y c_52
              have h6 := zqP_6 h5 hok6
              have hd6 := zoR_d hok6 (by decide) (by decide)
              have hE : (if zoR bf len (zsp s8 + 1 + 4 + 1) 0 5 = true then nI (zdg bf (zsp s8 + 1 + 4 + 1)) else -9 : Int32) = (nI (zdg bf (zsp s8 + 1 + 4 + 1))) := if_pos hok6
              have hl : lv_has ls 4 [(3, .int (nI (zdg bf (zsp s8 + 1 + 4 + 1)))), (2, .int (nI (zdg bf (zsp s8 + 1 + 4)))), (1, .int (bf (zsp s8))), (0, .ref M)] := Eq.subst (motive := fun zz_ => lv_has ls 4 [(3, .int zz_), (2, .int (nI (zdg bf (zsp s8 + 1 + 4)))), (1, .int (bf (zsp s8))), (0, .ref M)]) hE hl
              have e_53 : nI (if zoR bf len (zsp s8 + 1 + 4 + 1) 0 5 = true then (zsp s8 + 1 + 4 + 1) + 1 else (zsp s8 + 1 + 4 + 1)) = nI (zsp s8 + 1 + 4 + 1 + 1) := by rw [if_pos hok6]
              have hP : va_P D vwCl [(M, .inr (9, [.int th, .ref mtx, .int (nI len), .int (nI (zsp s8 + 1 + 4 + 1 + 1)), .int rt, .int fr, .int pr, .ref mod_, .int (nI n), .ref mne, .ref mro, .int (nI m), .int rrt, .int rfr, .int rpr, .ref mrod, .int (nI (zsn s8)), .ref mrne, .ref mrro, .int (nI (zsm s8)), .ref mrp, .ref mpg, .ref mbk, .int (nI ac), .ref mke, .ref mik, .int (nI cr), .ref mrw, .ref mrd, .long sd, .ref mtr, .ref mwo, .ref mnx, .int jr])), (mtx, .inl (cI, 64, .inl bf)), (mrne, .inl (cI, 5, .inl mv)), (mrro, .inl (cI, 5, .inl md)), (mrp, .inl (cI, 36, .inl te2_43))] H := Eq.subst (motive := fun zz_ => va_P D vwCl [(M, .inr (9, [.int th, .ref mtx, .int (nI len), .int zz_, .int rt, .int fr, .int pr, .ref mod_, .int (nI n), .ref mne, .ref mro, .int (nI m), .int rrt, .int rfr, .int rpr, .ref mrod, .int (nI (zsn s8)), .ref mrne, .ref mrro, .int (nI (zsm s8)), .ref mrp, .ref mpg, .ref mbk, .int (nI ac), .ref mke, .ref mik, .int (nI cr), .ref mrw, .ref mrd, .long sd, .ref mtr, .ref mwo, .ref mnx, .int jr])), (mtx, .inl (cI, 64, .inl bf)), (mrne, .inl (cI, 5, .inl mv)), (mrro, .inl (cI, 5, .inl md)), (mrp, .inl (cI, 36, .inl te2_43))] H) e_53 hP
              have hD : va_D A [(M, .inr (9, [.int th, .ref mtx, .int (nI len), .int (nI (zsp s8 + 1 + 4 + 1 + 1)), .int rt, .int fr, .int pr, .ref mod_, .int (nI n), .ref mne, .ref mro, .int (nI m), .int rrt, .int rfr, .int rpr, .ref mrod, .int (nI (zsn s8)), .ref mrne, .ref mrro, .int (nI (zsm s8)), .ref mrp, .ref mpg, .ref mbk, .int (nI ac), .ref mke, .ref mik, .int (nI cr), .ref mrw, .ref mrd, .long sd, .ref mtr, .ref mwo, .ref mnx, .int jr])), (mtx, .inl (cI, 64, .inl bf)), (mrne, .inl (cI, 5, .inl mv)), (mrro, .inl (cI, 5, .inl md)), (mrp, .inl (cI, 36, .inl te2_43))] := zD_of hD rfl
              have e_54 : te2_43 = zpu g (7 * zsn s8) (zpd bf (zsp s8 + 1)) 4 := by exact hte h44
              have hP : va_P D vwCl [(M, .inr (9, [.int th, .ref mtx, .int (nI len), .int (nI (zsp s8 + 1 + 4 + 1 + 1)), .int rt, .int fr, .int pr, .ref mod_, .int (nI n), .ref mne, .ref mro, .int (nI m), .int rrt, .int rfr, .int rpr, .ref mrod, .int (nI (zsn s8)), .ref mrne, .ref mrro, .int (nI (zsm s8)), .ref mrp, .ref mpg, .ref mbk, .int (nI ac), .ref mke, .ref mik, .int (nI cr), .ref mrw, .ref mrd, .long sd, .ref mtr, .ref mwo, .ref mnx, .int jr])), (mtx, .inl (cI, 64, .inl bf)), (mrne, .inl (cI, 5, .inl mv)), (mrro, .inl (cI, 5, .inl md)), (mrp, .inl (cI, 36, .inl (zpu g (7 * zsn s8) (zpd bf (zsp s8 + 1)) 4)))] H := Eq.subst (motive := fun zz_ => va_P D vwCl [(M, .inr (9, [.int th, .ref mtx, .int (nI len), .int (nI (zsp s8 + 1 + 4 + 1 + 1)), .int rt, .int fr, .int pr, .ref mod_, .int (nI n), .ref mne, .ref mro, .int (nI m), .int rrt, .int rfr, .int rpr, .ref mrod, .int (nI (zsn s8)), .ref mrne, .ref mrro, .int (nI (zsm s8)), .ref mrp, .ref mpg, .ref mbk, .int (nI ac), .ref mke, .ref mik, .int (nI cr), .ref mrw, .ref mrd, .long sd, .ref mtr, .ref mwo, .ref mnx, .int jr])), (mtx, .inl (cI, 64, .inl bf)), (mrne, .inl (cI, 5, .inl mv)), (mrro, .inl (cI, 5, .inl md)), (mrp, .inl (cI, 36, .inl zz_))] H) e_54 hP
              have hD : va_D A [(M, .inr (9, [.int th, .ref mtx, .int (nI len), .int (nI (zsp s8 + 1 + 4 + 1 + 1)), .int rt, .int fr, .int pr, .ref mod_, .int (nI n), .ref mne, .ref mro, .int (nI m), .int rrt, .int rfr, .int rpr, .ref mrod, .int (nI (zsn s8)), .ref mrne, .ref mrro, .int (nI (zsm s8)), .ref mrp, .ref mpg, .ref mbk, .int (nI ac), .ref mke, .ref mik, .int (nI cr), .ref mrw, .ref mrd, .long sd, .ref mtr, .ref mwo, .ref mnx, .int jr])), (mtx, .inl (cI, 64, .inl bf)), (mrne, .inl (cI, 5, .inl mv)), (mrro, .inl (cI, 5, .inl md)), (mrp, .inl (cI, 36, .inl (zpu g (7 * zsn s8) (zpd bf (zsp s8 + 1)) 4)))] := zD_of hD rfl
              refine lv_aload_n hx hb dX9_readPart_88 rfl (lv_at hl 3 rfl) ?_
              refine z_get (ci := 9) (v := .ref mrp) Z zin9 hP 0 rfl rfl 20 (by decide) zm697 rfl rfl dX9_readPart_89 ?_
              refine lv_bipush (v := nI 7) hx hb dX9_readPart_92 (by decide) ?_
              refine lv_aload_n hx hb dX9_readPart_94 rfl (lv_at hl 3 rfl) ?_
              refine z_get (ci := 9) (v := .int (nI (zsn s8))) Z zin9 hP 0 rfl rfl 16 (by decide) zm693 rfl rfl dX9_readPart_95 ?_
              refine lv_imul hx hb dX9_readPart_98 ?_
              refine z_top (y := nI (7 * (zsn s8))) (z_mul _ _) ?_
              refine lv_iconst (v := nI 4) hx hb dX9_readPart_99 (by decide) ?_
              refine lv_iadd hx hb dX9_readPart_100 ?_
              refine z_top (y := nI (7 * (zsn s8) + 4)) (z_add _ _) ?_
              refine lv_bipush (v := nI 10) hx hb dX9_readPart_101 (by decide) ?_
              refine lv_iload_n hx hb dX9_readPart_103 rfl (lv_at hl 1 rfl) ?_
              refine lv_imul hx hb dX9_readPart_104 ?_
              refine z_top (y := nI (10 * (zdg bf (zsp s8 + 1 + 4)))) (z_mul _ _) ?_
              refine z_iast (n := 36) (f := zpu g (7 * zsn s8) (zpd bf (zsp s8 + 1)) 4) (j := 7 * (zsn s8) + 4) (x := nI (10 * (zdg bf (zsp s8 + 1 + 4)))) Z hP hD hS 4 rfl (by omega) (by decide) dX9_readPart_105 (fun H locs hP hD hS => ?_)
              have hP : va_P D vwCl [(M, .inr (9, [.int th, .ref mtx, .int (nI len), .int (nI (zsp s8 + 1 + 4 + 1 + 1)), .int rt, .int fr, .int pr, .ref mod_, .int (nI n), .ref mne, .ref mro, .int (nI m), .int rrt, .int rfr, .int rpr, .ref mrod, .int (nI (zsn s8)), .ref mrne, .ref mrro, .int (nI (zsm s8)), .ref mrp, .ref mpg, .ref mbk, .int (nI ac), .ref mke, .ref mik, .int (nI cr), .ref mrw, .ref mrd, .long sd, .ref mtr, .ref mwo, .ref mnx, .int jr])), (mtx, .inl (cI, 64, .inl bf)), (mrne, .inl (cI, 5, .inl mv)), (mrro, .inl (cI, 5, .inl md)), (mrp, .inl (cI, 36, .inl (upd (zpu g (7 * zsn s8) (zpd bf (zsp s8 + 1)) 4) (7 * (zsn s8) + 4) (nI (10 * (zdg bf (zsp s8 + 1 + 4)))))))] H := hP
              have hD : va_D A [(M, .inr (9, [.int th, .ref mtx, .int (nI len), .int (nI (zsp s8 + 1 + 4 + 1 + 1)), .int rt, .int fr, .int pr, .ref mod_, .int (nI n), .ref mne, .ref mro, .int (nI m), .int rrt, .int rfr, .int rpr, .ref mrod, .int (nI (zsn s8)), .ref mrne, .ref mrro, .int (nI (zsm s8)), .ref mrp, .ref mpg, .ref mbk, .int (nI ac), .ref mke, .ref mik, .int (nI cr), .ref mrw, .ref mrd, .long sd, .ref mtr, .ref mwo, .ref mnx, .int jr])), (mtx, .inl (cI, 64, .inl bf)), (mrne, .inl (cI, 5, .inl mv)), (mrro, .inl (cI, 5, .inl md)), (mrp, .inl (cI, 36, .inl (upd (zpu g (7 * zsn s8) (zpd bf (zsp s8 + 1)) 4) (7 * (zsn s8) + 4) (nI (10 * (zdg bf (zsp s8 + 1 + 4)))))))] := hD
              refine lv_aload_n hx hb dX9_readPart_106 rfl (lv_at hl 3 rfl) ?_
              refine z_get (ci := 9) (v := .ref mrp) Z zin9 hP 0 rfl rfl 20 (by decide) zm697 rfl rfl dX9_readPart_107 ?_
              refine lv_bipush (v := nI 7) hx hb dX9_readPart_110 (by decide) ?_
              refine lv_aload_n hx hb dX9_readPart_112 rfl (lv_at hl 3 rfl) ?_
              refine z_get (ci := 9) (v := .int (nI (zsn s8))) Z zin9 hP 0 rfl rfl 16 (by decide) zm693 rfl rfl dX9_readPart_113 ?_
              refine lv_imul hx hb dX9_readPart_116 ?_
              refine z_top (y := nI (7 * (zsn s8))) (z_mul _ _) ?_
              refine lv_iconst (v := nI 5) hx hb dX9_readPart_117 (by decide) ?_
              refine lv_iadd hx hb dX9_readPart_118 ?_
              refine z_top (y := nI (7 * (zsn s8) + 5)) (z_add _ _) ?_
              refine lv_bipush (v := -9) hx hb dX9_readPart_119 (by decide) ?_
              refine z_iast (n := 36) (f := upd (zpu g (7 * zsn s8) (zpd bf (zsp s8 + 1)) 4) (7 * (zsn s8) + 4) (nI (10 * (zdg bf (zsp s8 + 1 + 4))))) (j := 7 * (zsn s8) + 5) (x := -9) Z hP hD hS 4 rfl (by omega) (by decide) dX9_readPart_121 (fun H locs hP hD hS => ?_)
              have hP : va_P D vwCl [(M, .inr (9, [.int th, .ref mtx, .int (nI len), .int (nI (zsp s8 + 1 + 4 + 1 + 1)), .int rt, .int fr, .int pr, .ref mod_, .int (nI n), .ref mne, .ref mro, .int (nI m), .int rrt, .int rfr, .int rpr, .ref mrod, .int (nI (zsn s8)), .ref mrne, .ref mrro, .int (nI (zsm s8)), .ref mrp, .ref mpg, .ref mbk, .int (nI ac), .ref mke, .ref mik, .int (nI cr), .ref mrw, .ref mrd, .long sd, .ref mtr, .ref mwo, .ref mnx, .int jr])), (mtx, .inl (cI, 64, .inl bf)), (mrne, .inl (cI, 5, .inl mv)), (mrro, .inl (cI, 5, .inl md)), (mrp, .inl (cI, 36, .inl (upd (upd (zpu g (7 * zsn s8) (zpd bf (zsp s8 + 1)) 4) (7 * (zsn s8) + 4) (nI (10 * (zdg bf (zsp s8 + 1 + 4))))) (7 * (zsn s8) + 5) (-9))))] H := hP
              have hD : va_D A [(M, .inr (9, [.int th, .ref mtx, .int (nI len), .int (nI (zsp s8 + 1 + 4 + 1 + 1)), .int rt, .int fr, .int pr, .ref mod_, .int (nI n), .ref mne, .ref mro, .int (nI m), .int rrt, .int rfr, .int rpr, .ref mrod, .int (nI (zsn s8)), .ref mrne, .ref mrro, .int (nI (zsm s8)), .ref mrp, .ref mpg, .ref mbk, .int (nI ac), .ref mke, .ref mik, .int (nI cr), .ref mrw, .ref mrd, .long sd, .ref mtr, .ref mwo, .ref mnx, .int jr])), (mtx, .inl (cI, 64, .inl bf)), (mrne, .inl (cI, 5, .inl mv)), (mrro, .inl (cI, 5, .inl md)), (mrp, .inl (cI, 36, .inl (upd (upd (zpu g (7 * zsn s8) (zpd bf (zsp s8 + 1)) 4) (7 * (zsn s8) + 4) (nI (10 * (zdg bf (zsp s8 + 1 + 4))))) (7 * (zsn s8) + 5) (-9))))] := hD
              refine lv_aload_n hx hb dX9_readPart_122 rfl (lv_at hl 3 rfl) ?_
              refine z_get (ci := 9) (v := .ref mrp) Z zin9 hP 0 rfl rfl 20 (by decide) zm697 rfl rfl dX9_readPart_123 ?_
              refine lv_bipush (v := nI 7) hx hb dX9_readPart_126 (by decide) ?_
              refine lv_aload_n hx hb dX9_readPart_128 rfl (lv_at hl 3 rfl) ?_
              refine z_get (ci := 9) (v := .int (nI (zsn s8))) Z zin9 hP 0 rfl rfl 16 (by decide) zm693 rfl rfl dX9_readPart_129 ?_
              refine lv_imul hx hb dX9_readPart_132 ?_
              refine z_top (y := nI (7 * (zsn s8))) (z_mul _ _) ?_
              refine lv_bipush (v := nI 6) hx hb dX9_readPart_133 (by decide) ?_
              refine lv_iadd hx hb dX9_readPart_135 ?_
              refine z_top (y := nI (7 * (zsn s8) + 6)) (z_add _ _) ?_
              refine lv_bipush (v := -9) hx hb dX9_readPart_136 (by decide) ?_
              refine z_iast (n := 36) (f := upd (upd (zpu g (7 * zsn s8) (zpd bf (zsp s8 + 1)) 4) (7 * (zsn s8) + 4) (nI (10 * (zdg bf (zsp s8 + 1 + 4))))) (7 * (zsn s8) + 5) (-9)) (j := 7 * (zsn s8) + 6) (x := -9) Z hP hD hS 4 rfl (by omega) (by decide) dX9_readPart_138 (fun H locs hP hD hS => ?_)
              have hP : va_P D vwCl [(M, .inr (9, [.int th, .ref mtx, .int (nI len), .int (nI (zsp s8 + 1 + 4 + 1 + 1)), .int rt, .int fr, .int pr, .ref mod_, .int (nI n), .ref mne, .ref mro, .int (nI m), .int rrt, .int rfr, .int rpr, .ref mrod, .int (nI (zsn s8)), .ref mrne, .ref mrro, .int (nI (zsm s8)), .ref mrp, .ref mpg, .ref mbk, .int (nI ac), .ref mke, .ref mik, .int (nI cr), .ref mrw, .ref mrd, .long sd, .ref mtr, .ref mwo, .ref mnx, .int jr])), (mtx, .inl (cI, 64, .inl bf)), (mrne, .inl (cI, 5, .inl mv)), (mrro, .inl (cI, 5, .inl md)), (mrp, .inl (cI, 36, .inl (upd (upd (upd (zpu g (7 * zsn s8) (zpd bf (zsp s8 + 1)) 4) (7 * (zsn s8) + 4) (nI (10 * (zdg bf (zsp s8 + 1 + 4))))) (7 * (zsn s8) + 5) (-9)) (7 * (zsn s8) + 6) (-9))))] H := hP
              have hD : va_D A [(M, .inr (9, [.int th, .ref mtx, .int (nI len), .int (nI (zsp s8 + 1 + 4 + 1 + 1)), .int rt, .int fr, .int pr, .ref mod_, .int (nI n), .ref mne, .ref mro, .int (nI m), .int rrt, .int rfr, .int rpr, .ref mrod, .int (nI (zsn s8)), .ref mrne, .ref mrro, .int (nI (zsm s8)), .ref mrp, .ref mpg, .ref mbk, .int (nI ac), .ref mke, .ref mik, .int (nI cr), .ref mrw, .ref mrd, .long sd, .ref mtr, .ref mwo, .ref mnx, .int jr])), (mtx, .inl (cI, 64, .inl bf)), (mrne, .inl (cI, 5, .inl mv)), (mrro, .inl (cI, 5, .inl md)), (mrp, .inl (cI, 36, .inl (upd (upd (upd (zpu g (7 * zsn s8) (zpd bf (zsp s8 + 1)) 4) (7 * (zsn s8) + 4) (nI (10 * (zdg bf (zsp s8 + 1 + 4))))) (7 * (zsn s8) + 5) (-9)) (7 * (zsn s8) + 6) (-9))))] := hD
              refine lv_aload_n hx hb dX9_readPart_139 rfl (lv_at hl 3 rfl) ?_
              refine z_get (ci := 9) (v := .ref mrne) Z zin9 hP 0 rfl rfl 17 (by decide) zm694 rfl rfl dX9_readPart_140 ?_
              refine lv_aload_n hx hb dX9_readPart_143 rfl (lv_at hl 3 rfl) ?_
              refine z_get (ci := 9) (v := .int (nI (zsn s8))) Z zin9 hP 0 rfl rfl 16 (by decide) zm693 rfl rfl dX9_readPart_144 ?_
              refine lv_iload_n hx hb dX9_readPart_147 rfl (lv_at hl 0 rfl) ?_
              refine z_iast (n := 5) (f := mv) (j := zsn s8) (x := nI (zdg bf (zsp s8 + 1 + 4 + 1))) Z hP hD hS 2 rfl (by omega) (by decide) dX9_readPart_148 (fun H locs hP hD hS => ?_)
              have hP : va_P D vwCl [(M, .inr (9, [.int th, .ref mtx, .int (nI len), .int (nI (zsp s8 + 1 + 4 + 1 + 1)), .int rt, .int fr, .int pr, .ref mod_, .int (nI n), .ref mne, .ref mro, .int (nI m), .int rrt, .int rfr, .int rpr, .ref mrod, .int (nI (zsn s8)), .ref mrne, .ref mrro, .int (nI (zsm s8)), .ref mrp, .ref mpg, .ref mbk, .int (nI ac), .ref mke, .ref mik, .int (nI cr), .ref mrw, .ref mrd, .long sd, .ref mtr, .ref mwo, .ref mnx, .int jr])), (mtx, .inl (cI, 64, .inl bf)), (mrne, .inl (cI, 5, .inl (upd mv (zsn s8) (nI (zdg bf (zsp s8 + 1 + 4 + 1)))))), (mrro, .inl (cI, 5, .inl md)), (mrp, .inl (cI, 36, .inl (upd (upd (upd (zpu g (7 * zsn s8) (zpd bf (zsp s8 + 1)) 4) (7 * (zsn s8) + 4) (nI (10 * (zdg bf (zsp s8 + 1 + 4))))) (7 * (zsn s8) + 5) (-9)) (7 * (zsn s8) + 6) (-9))))] H := hP
              have hD : va_D A [(M, .inr (9, [.int th, .ref mtx, .int (nI len), .int (nI (zsp s8 + 1 + 4 + 1 + 1)), .int rt, .int fr, .int pr, .ref mod_, .int (nI n), .ref mne, .ref mro, .int (nI m), .int rrt, .int rfr, .int rpr, .ref mrod, .int (nI (zsn s8)), .ref mrne, .ref mrro, .int (nI (zsm s8)), .ref mrp, .ref mpg, .ref mbk, .int (nI ac), .ref mke, .ref mik, .int (nI cr), .ref mrw, .ref mrd, .long sd, .ref mtr, .ref mwo, .ref mnx, .int jr])), (mtx, .inl (cI, 64, .inl bf)), (mrne, .inl (cI, 5, .inl (upd mv (zsn s8) (nI (zdg bf (zsp s8 + 1 + 4 + 1)))))), (mrro, .inl (cI, 5, .inl md)), (mrp, .inl (cI, 36, .inl (upd (upd (upd (zpu g (7 * zsn s8) (zpd bf (zsp s8 + 1)) 4) (7 * (zsn s8) + 4) (nI (10 * (zdg bf (zsp s8 + 1 + 4))))) (7 * (zsn s8) + 5) (-9)) (7 * (zsn s8) + 6) (-9))))] := hD
              refine lv_aload_n hx hb dX9_readPart_149 rfl (lv_at hl 3 rfl) ?_
              refine z_get (ci := 9) (v := .ref mrro) Z zin9 hP 0 rfl rfl 18 (by decide) zm695 rfl rfl dX9_readPart_150 ?_
              refine lv_aload_n hx hb dX9_readPart_153 rfl (lv_at hl 3 rfl) ?_
              refine z_get (ci := 9) (v := .int (nI (zsn s8))) Z zin9 hP 0 rfl rfl 16 (by decide) zm693 rfl rfl dX9_readPart_154 ?_
              refine lv_iconst (v := nI 0) hx hb dX9_readPart_157 (by decide) ?_
              refine z_iast (n := 5) (f := md) (j := zsn s8) (x := nI 0) Z hP hD hS 3 rfl (by omega) (by decide) dX9_readPart_158 (fun H locs hP hD hS => ?_)
              have hP : va_P D vwCl [(M, .inr (9, [.int th, .ref mtx, .int (nI len), .int (nI (zsp s8 + 1 + 4 + 1 + 1)), .int rt, .int fr, .int pr, .ref mod_, .int (nI n), .ref mne, .ref mro, .int (nI m), .int rrt, .int rfr, .int rpr, .ref mrod, .int (nI (zsn s8)), .ref mrne, .ref mrro, .int (nI (zsm s8)), .ref mrp, .ref mpg, .ref mbk, .int (nI ac), .ref mke, .ref mik, .int (nI cr), .ref mrw, .ref mrd, .long sd, .ref mtr, .ref mwo, .ref mnx, .int jr])), (mtx, .inl (cI, 64, .inl bf)), (mrne, .inl (cI, 5, .inl (upd mv (zsn s8) (nI (zdg bf (zsp s8 + 1 + 4 + 1)))))), (mrro, .inl (cI, 5, .inl (upd md (zsn s8) 0))), (mrp, .inl (cI, 36, .inl (upd (upd (upd (zpu g (7 * zsn s8) (zpd bf (zsp s8 + 1)) 4) (7 * (zsn s8) + 4) (nI (10 * (zdg bf (zsp s8 + 1 + 4))))) (7 * (zsn s8) + 5) (-9)) (7 * (zsn s8) + 6) (-9))))] H := hP
              have hD : va_D A [(M, .inr (9, [.int th, .ref mtx, .int (nI len), .int (nI (zsp s8 + 1 + 4 + 1 + 1)), .int rt, .int fr, .int pr, .ref mod_, .int (nI n), .ref mne, .ref mro, .int (nI m), .int rrt, .int rfr, .int rpr, .ref mrod, .int (nI (zsn s8)), .ref mrne, .ref mrro, .int (nI (zsm s8)), .ref mrp, .ref mpg, .ref mbk, .int (nI ac), .ref mke, .ref mik, .int (nI cr), .ref mrw, .ref mrd, .long sd, .ref mtr, .ref mwo, .ref mnx, .int jr])), (mtx, .inl (cI, 64, .inl bf)), (mrne, .inl (cI, 5, .inl (upd mv (zsn s8) (nI (zdg bf (zsp s8 + 1 + 4 + 1)))))), (mrro, .inl (cI, 5, .inl (upd md (zsn s8) 0))), (mrp, .inl (cI, 36, .inl (upd (upd (upd (zpu g (7 * zsn s8) (zpd bf (zsp s8 + 1)) 4) (7 * (zsn s8) + 4) (nI (10 * (zdg bf (zsp s8 + 1 + 4))))) (7 * (zsn s8) + 5) (-9)) (7 * (zsn s8) + 6) (-9))))] := hD
              refine lv_aload_n hx hb dX9_readPart_159 rfl (lv_at hl 3 rfl) ?_
              refine lv_dup hx hb dX9_readPart_160 rfl ?_
              refine z_get (ci := 9) (v := .int (nI (zsn s8))) Z zin9 hP 0 rfl rfl 16 (by decide) zm693 rfl rfl dX9_readPart_161 ?_
              refine lv_iconst (v := nI 1) hx hb dX9_readPart_164 (by decide) ?_
              refine lv_iadd hx hb dX9_readPart_165 ?_
              refine z_top (y := nI (zsn s8 + 1)) (z_add _ _) ?_
              refine z_put (ci := 9) (v := .int (nI (zsn s8 + 1))) Z zin9 tyX9 tyX9_ok nmX9 hP hD hS 0 rfl rfl 16 (by decide) zm693 rfl rfl rfl rfl (Nat.le_of_ble_eq_true rfl) dX9_readPart_166 (fun H locs hP hD hS => ?_)
              have hP : va_P D vwCl [(M, .inr (9, [.int th, .ref mtx, .int (nI len), .int (nI (zsp s8 + 1 + 4 + 1 + 1)), .int rt, .int fr, .int pr, .ref mod_, .int (nI n), .ref mne, .ref mro, .int (nI m), .int rrt, .int rfr, .int rpr, .ref mrod, .int (nI (zsn s8 + 1)), .ref mrne, .ref mrro, .int (nI (zsm s8)), .ref mrp, .ref mpg, .ref mbk, .int (nI ac), .ref mke, .ref mik, .int (nI cr), .ref mrw, .ref mrd, .long sd, .ref mtr, .ref mwo, .ref mnx, .int jr])), (mtx, .inl (cI, 64, .inl bf)), (mrne, .inl (cI, 5, .inl (upd mv (zsn s8) (nI (zdg bf (zsp s8 + 1 + 4 + 1)))))), (mrro, .inl (cI, 5, .inl (upd md (zsn s8) 0))), (mrp, .inl (cI, 36, .inl (upd (upd (upd (zpu g (7 * zsn s8) (zpd bf (zsp s8 + 1)) 4) (7 * (zsn s8) + 4) (nI (10 * (zdg bf (zsp s8 + 1 + 4))))) (7 * (zsn s8) + 5) (-9)) (7 * (zsn s8) + 6) (-9))))] H := hP
              have hD : va_D A [(M, .inr (9, [.int th, .ref mtx, .int (nI len), .int (nI (zsp s8 + 1 + 4 + 1 + 1)), .int rt, .int fr, .int pr, .ref mod_, .int (nI n), .ref mne, .ref mro, .int (nI m), .int rrt, .int rfr, .int rpr, .ref mrod, .int (nI (zsn s8 + 1)), .ref mrne, .ref mrro, .int (nI (zsm s8)), .ref mrp, .ref mpg, .ref mbk, .int (nI ac), .ref mke, .ref mik, .int (nI cr), .ref mrw, .ref mrd, .long sd, .ref mtr, .ref mwo, .ref mnx, .int jr])), (mtx, .inl (cI, 64, .inl bf)), (mrne, .inl (cI, 5, .inl (upd mv (zsn s8) (nI (zdg bf (zsp s8 + 1 + 4 + 1)))))), (mrro, .inl (cI, 5, .inl (upd md (zsn s8) 0))), (mrp, .inl (cI, 36, .inl (upd (upd (upd (zpu g (7 * zsn s8) (zpd bf (zsp s8 + 1)) 4) (7 * (zsn s8) + 4) (nI (10 * (zdg bf (zsp s8 + 1 + 4))))) (7 * (zsn s8) + 5) (-9)) (7 * (zsn s8) + 6) (-9))))] := hD
              refine lv_iconst (v := nI 1) hx hb dX9_readPart_169 (by decide) ?_
              have e_55 : nI (zsp s8 + 1 + 4 + 1 + 1) = nI (zsQ bf len s8) := by first | (rw [hqa, if_neg (by rw [decide_eq_true_eq]; exact hcn.2)]; done) | (rw [hqa, if_neg (by rw [decide_eq_true_eq]; exact hcn.2)]; rfl) | (rw [hqa, if_pos (decide_eq_true h6)]; rfl) | (rw [hqa, if_neg (by rw [decide_eq_true_eq, hcq]; decide)]; rfl) | (rw [hqa, if_pos (decide_eq_true hcq)]; rfl) | (rw [hqa]; rfl) | (rw [hqq, hcn.1]; done) | (rw [hqq, h6]; done) | (rw [hqq, hcq]; done) | (rw [hqq]; done)
              have hP : va_P D vwCl [(M, .inr (9, [.int th, .ref mtx, .int (nI len), .int (nI (zsQ bf len s8)), .int rt, .int fr, .int pr, .ref mod_, .int (nI n), .ref mne, .ref mro, .int (nI m), .int rrt, .int rfr, .int rpr, .ref mrod, .int (nI (zsn s8 + 1)), .ref mrne, .ref mrro, .int (nI (zsm s8)), .ref mrp, .ref mpg, .ref mbk, .int (nI ac), .ref mke, .ref mik, .int (nI cr), .ref mrw, .ref mrd, .long sd, .ref mtr, .ref mwo, .ref mnx, .int jr])), (mtx, .inl (cI, 64, .inl bf)), (mrne, .inl (cI, 5, .inl (upd mv (zsn s8) (nI (zdg bf (zsp s8 + 1 + 4 + 1)))))), (mrro, .inl (cI, 5, .inl (upd md (zsn s8) 0))), (mrp, .inl (cI, 36, .inl (upd (upd (upd (zpu g (7 * zsn s8) (zpd bf (zsp s8 + 1)) 4) (7 * (zsn s8) + 4) (nI (10 * (zdg bf (zsp s8 + 1 + 4))))) (7 * (zsn s8) + 5) (-9)) (7 * (zsn s8) + 6) (-9))))] H := Eq.subst (motive := fun zz_ => va_P D vwCl [(M, .inr (9, [.int th, .ref mtx, .int (nI len), .int zz_, .int rt, .int fr, .int pr, .ref mod_, .int (nI n), .ref mne, .ref mro, .int (nI m), .int rrt, .int rfr, .int rpr, .ref mrod, .int (nI (zsn s8 + 1)), .ref mrne, .ref mrro, .int (nI (zsm s8)), .ref mrp, .ref mpg, .ref mbk, .int (nI ac), .ref mke, .ref mik, .int (nI cr), .ref mrw, .ref mrd, .long sd, .ref mtr, .ref mwo, .ref mnx, .int jr])), (mtx, .inl (cI, 64, .inl bf)), (mrne, .inl (cI, 5, .inl (upd mv (zsn s8) (nI (zdg bf (zsp s8 + 1 + 4 + 1)))))), (mrro, .inl (cI, 5, .inl (upd md (zsn s8) 0))), (mrp, .inl (cI, 36, .inl (upd (upd (upd (zpu g (7 * zsn s8) (zpd bf (zsp s8 + 1)) 4) (7 * (zsn s8) + 4) (nI (10 * (zdg bf (zsp s8 + 1 + 4))))) (7 * (zsn s8) + 5) (-9)) (7 * (zsn s8) + 6) (-9))))] H) e_55 hP
              have hD : va_D A [(M, .inr (9, [.int th, .ref mtx, .int (nI len), .int (nI (zsQ bf len s8)), .int rt, .int fr, .int pr, .ref mod_, .int (nI n), .ref mne, .ref mro, .int (nI m), .int rrt, .int rfr, .int rpr, .ref mrod, .int (nI (zsn s8 + 1)), .ref mrne, .ref mrro, .int (nI (zsm s8)), .ref mrp, .ref mpg, .ref mbk, .int (nI ac), .ref mke, .ref mik, .int (nI cr), .ref mrw, .ref mrd, .long sd, .ref mtr, .ref mwo, .ref mnx, .int jr])), (mtx, .inl (cI, 64, .inl bf)), (mrne, .inl (cI, 5, .inl (upd mv (zsn s8) (nI (zdg bf (zsp s8 + 1 + 4 + 1)))))), (mrro, .inl (cI, 5, .inl (upd md (zsn s8) 0))), (mrp, .inl (cI, 36, .inl (upd (upd (upd (zpu g (7 * zsn s8) (zpd bf (zsp s8 + 1)) 4) (7 * (zsn s8) + 4) (nI (10 * (zdg bf (zsp s8 + 1 + 4))))) (7 * (zsn s8) + 5) (-9)) (7 * (zsn s8) + 6) (-9))))] := zD_of hD rfl
              exact z_zret Z (zsn s8 + 1, zsm s8, upd mv (zsn s8) (nI (zdg bf (zsp s8 + 1 + 4 + 1))), upd md (zsn s8) 0, upd (upd (upd (zpu g (7 * zsn s8) (zpd bf (zsp s8 + 1)) 4) (7 * (zsn s8) + 4) (nI (10 * (zdg bf (zsp s8 + 1 + 4))))) (7 * (zsn s8) + 5) (-9)) (7 * (zsn s8) + 6) (-9)) (by decide) ⟨(by first | (rw [hqa, if_neg (by rw [decide_eq_true_eq]; exact hcn.2)]; done) | (rw [hqa, if_neg (by rw [decide_eq_true_eq]; exact hcn.2)]; rfl) | (rw [hqa, if_pos (decide_eq_true h6)]; rfl) | (rw [hqa, if_neg (by rw [decide_eq_true_eq, hcq]; decide)]; rfl) | (rw [hqa, if_pos (decide_eq_true hcq)]; rfl) | (rw [hqa]; rfl) | (rw [hqq, hcn.1]; done) | (rw [hqq, h6]; done) | (rw [hqq, hcq]; done) | (rw [hqq]; done)), (by first | (intro z; rw [hqa, decide_eq_true_eq] at z; exact absurd z hcn.2) | exact fun _ => ⟨by rw [zsS_P hq8]; rfl, by rw [zsS_P hq8]; rfl, zmR_P hq8 hI hR⟩ | (intro z; rw [hqa, decide_eq_true_eq, hcq] at z; exact absurd z (by decide)) | exact fun _ => ⟨by rw [zsS_R hq9]; rfl, by rw [zsS_R hq9]; rfl, zmR_R hq9 (by omega) (by omega) hR⟩ | (intro z; rw [hqa] at z; exact absurd z (by decide)))⟩ hP hS dX9_readPart_170
            · have c_52 : (if zoR bf len (zsp s8 + 1 + 4 + 1) 0 5 = true then nI (zdg bf (zsp s8 + 1 + 4 + 1)) else -9) = (-9 : Int32) := c_52
              have hno6 := zif9_n (by decide) (by decide) c_52
              have hcn := zqP_6n h5 hno6
              have e_56 : nI (if zoR bf len (zsp s8 + 1 + 4 + 1) 0 5 = true then (zsp s8 + 1 + 4 + 1) + 1 else (zsp s8 + 1 + 4 + 1)) = nI (zsp s8 + 1 + 5) := by rw [if_neg hno6]
              have hP : va_P D vwCl [(M, .inr (9, [.int th, .ref mtx, .int (nI len), .int (nI (zsp s8 + 1 + 5)), .int rt, .int fr, .int pr, .ref mod_, .int (nI n), .ref mne, .ref mro, .int (nI m), .int rrt, .int rfr, .int rpr, .ref mrod, .int (nI (zsn s8)), .ref mrne, .ref mrro, .int (nI (zsm s8)), .ref mrp, .ref mpg, .ref mbk, .int (nI ac), .ref mke, .ref mik, .int (nI cr), .ref mrw, .ref mrd, .long sd, .ref mtr, .ref mwo, .ref mnx, .int jr])), (mtx, .inl (cI, 64, .inl bf)), (mrne, .inl (cI, 5, .inl mv)), (mrro, .inl (cI, 5, .inl md)), (mrp, .inl (cI, 36, .inl te2_43))] H := Eq.subst (motive := fun zz_ => va_P D vwCl [(M, .inr (9, [.int th, .ref mtx, .int (nI len), .int zz_, .int rt, .int fr, .int pr, .ref mod_, .int (nI n), .ref mne, .ref mro, .int (nI m), .int rrt, .int rfr, .int rpr, .ref mrod, .int (nI (zsn s8)), .ref mrne, .ref mrro, .int (nI (zsm s8)), .ref mrp, .ref mpg, .ref mbk, .int (nI ac), .ref mke, .ref mik, .int (nI cr), .ref mrw, .ref mrd, .long sd, .ref mtr, .ref mwo, .ref mnx, .int jr])), (mtx, .inl (cI, 64, .inl bf)), (mrne, .inl (cI, 5, .inl mv)), (mrro, .inl (cI, 5, .inl md)), (mrp, .inl (cI, 36, .inl te2_43))] H) e_56 hP
              have hD : va_D A [(M, .inr (9, [.int th, .ref mtx, .int (nI len), .int (nI (zsp s8 + 1 + 5)), .int rt, .int fr, .int pr, .ref mod_, .int (nI n), .ref mne, .ref mro, .int (nI m), .int rrt, .int rfr, .int rpr, .ref mrod, .int (nI (zsn s8)), .ref mrne, .ref mrro, .int (nI (zsm s8)), .ref mrp, .ref mpg, .ref mbk, .int (nI ac), .ref mke, .ref mik, .int (nI cr), .ref mrw, .ref mrd, .long sd, .ref mtr, .ref mwo, .ref mnx, .int jr])), (mtx, .inl (cI, 64, .inl bf)), (mrne, .inl (cI, 5, .inl mv)), (mrro, .inl (cI, 5, .inl md)), (mrp, .inl (cI, 36, .inl te2_43))] := zD_of hD rfl
              refine lv_iconst (v := nI 0) hx hb dX9_readPart_86 (by decide) ?_
              have e_57 : nI (zsp s8 + 1 + 5) = nI (zsQ bf len s8) := by first | (rw [hqa, if_neg (by rw [decide_eq_true_eq]; exact hcn.2)]; done) | (rw [hqa, if_neg (by rw [decide_eq_true_eq]; exact hcn.2)]; rfl) | (rw [hqa, if_pos (decide_eq_true h6)]; rfl) | (rw [hqa, if_neg (by rw [decide_eq_true_eq, hcq]; decide)]; rfl) | (rw [hqa, if_pos (decide_eq_true hcq)]; rfl) | (rw [hqa]; rfl) | (rw [hqq, hcn.1]; done) | (rw [hqq, h6]; done) | (rw [hqq, hcq]; done) | (rw [hqq]; done)
              have hP : va_P D vwCl [(M, .inr (9, [.int th, .ref mtx, .int (nI len), .int (nI (zsQ bf len s8)), .int rt, .int fr, .int pr, .ref mod_, .int (nI n), .ref mne, .ref mro, .int (nI m), .int rrt, .int rfr, .int rpr, .ref mrod, .int (nI (zsn s8)), .ref mrne, .ref mrro, .int (nI (zsm s8)), .ref mrp, .ref mpg, .ref mbk, .int (nI ac), .ref mke, .ref mik, .int (nI cr), .ref mrw, .ref mrd, .long sd, .ref mtr, .ref mwo, .ref mnx, .int jr])), (mtx, .inl (cI, 64, .inl bf)), (mrne, .inl (cI, 5, .inl mv)), (mrro, .inl (cI, 5, .inl md)), (mrp, .inl (cI, 36, .inl te2_43))] H := Eq.subst (motive := fun zz_ => va_P D vwCl [(M, .inr (9, [.int th, .ref mtx, .int (nI len), .int zz_, .int rt, .int fr, .int pr, .ref mod_, .int (nI n), .ref mne, .ref mro, .int (nI m), .int rrt, .int rfr, .int rpr, .ref mrod, .int (nI (zsn s8)), .ref mrne, .ref mrro, .int (nI (zsm s8)), .ref mrp, .ref mpg, .ref mbk, .int (nI ac), .ref mke, .ref mik, .int (nI cr), .ref mrw, .ref mrd, .long sd, .ref mtr, .ref mwo, .ref mnx, .int jr])), (mtx, .inl (cI, 64, .inl bf)), (mrne, .inl (cI, 5, .inl mv)), (mrro, .inl (cI, 5, .inl md)), (mrp, .inl (cI, 36, .inl te2_43))] H) e_57 hP
              have hD : va_D A [(M, .inr (9, [.int th, .ref mtx, .int (nI len), .int (nI (zsQ bf len s8)), .int rt, .int fr, .int pr, .ref mod_, .int (nI n), .ref mne, .ref mro, .int (nI m), .int rrt, .int rfr, .int rpr, .ref mrod, .int (nI (zsn s8)), .ref mrne, .ref mrro, .int (nI (zsm s8)), .ref mrp, .ref mpg, .ref mbk, .int (nI ac), .ref mke, .ref mik, .int (nI cr), .ref mrw, .ref mrd, .long sd, .ref mtr, .ref mwo, .ref mnx, .int jr])), (mtx, .inl (cI, 64, .inl bf)), (mrne, .inl (cI, 5, .inl mv)), (mrro, .inl (cI, 5, .inl md)), (mrp, .inl (cI, 36, .inl te2_43))] := zD_of hD rfl
              exact z_zret Z (zsn s8, zsm s8, mv, md, te2_43) (by decide) ⟨(by first | (rw [hqa, if_neg (by rw [decide_eq_true_eq]; exact hcn.2)]; done) | (rw [hqa, if_neg (by rw [decide_eq_true_eq]; exact hcn.2)]; rfl) | (rw [hqa, if_pos (decide_eq_true h6)]; rfl) | (rw [hqa, if_neg (by rw [decide_eq_true_eq, hcq]; decide)]; rfl) | (rw [hqa, if_pos (decide_eq_true hcq)]; rfl) | (rw [hqa]; rfl) | (rw [hqq, hcn.1]; done) | (rw [hqq, h6]; done) | (rw [hqq, hcq]; done) | (rw [hqq]; done)), (by first | (intro z; rw [hqa, decide_eq_true_eq] at z; exact absurd z hcn.2) | exact fun _ => ⟨by rw [zsS_P hq8]; rfl, by rw [zsS_P hq8]; rfl, zmR_P hq8 hI hR⟩ | (intro z; rw [hqa, decide_eq_true_eq, hcq] at z; exact absurd z (by decide)) | exact fun _ => ⟨by rw [zsS_R hq9]; rfl, by rw [zsS_R hq9]; rfl, zmR_R hq9 (by omega) (by omega) hR⟩ | (intro z; rw [hqa] at z; exact absurd z (by decide)))⟩ hP hS dX9_readPart_87
          · have c_48 : (if zoR bf len (zsp s8 + 1 + 4) 0 9 = true then nI (zdg bf (zsp s8 + 1 + 4)) else -9) = (-9 : Int32) := c_48
            have hno := zif9_n (by decide) (by decide) c_48
            have hcn := zqP_5n h44 hno
            have e_58 : nI (if zoR bf len (zsp s8 + 1 + 4) 0 9 = true then (zsp s8 + 1 + 4) + 1 else (zsp s8 + 1 + 4)) = nI (zsp s8 + 1 + 4) := by rw [if_neg hno]
            have hP : va_P D vwCl [(M, .inr (9, [.int th, .ref mtx, .int (nI len), .int (nI (zsp s8 + 1 + 4)), .int rt, .int fr, .int pr, .ref mod_, .int (nI n), .ref mne, .ref mro, .int (nI m), .int rrt, .int rfr, .int rpr, .ref mrod, .int (nI (zsn s8)), .ref mrne, .ref mrro, .int (nI (zsm s8)), .ref mrp, .ref mpg, .ref mbk, .int (nI ac), .ref mke, .ref mik, .int (nI cr), .ref mrw, .ref mrd, .long sd, .ref mtr, .ref mwo, .ref mnx, .int jr])), (mtx, .inl (cI, 64, .inl bf)), (mrne, .inl (cI, 5, .inl mv)), (mrro, .inl (cI, 5, .inl md)), (mrp, .inl (cI, 36, .inl te2_43))] H := Eq.subst (motive := fun zz_ => va_P D vwCl [(M, .inr (9, [.int th, .ref mtx, .int (nI len), .int zz_, .int rt, .int fr, .int pr, .ref mod_, .int (nI n), .ref mne, .ref mro, .int (nI m), .int rrt, .int rfr, .int rpr, .ref mrod, .int (nI (zsn s8)), .ref mrne, .ref mrro, .int (nI (zsm s8)), .ref mrp, .ref mpg, .ref mbk, .int (nI ac), .ref mke, .ref mik, .int (nI cr), .ref mrw, .ref mrd, .long sd, .ref mtr, .ref mwo, .ref mnx, .int jr])), (mtx, .inl (cI, 64, .inl bf)), (mrne, .inl (cI, 5, .inl mv)), (mrro, .inl (cI, 5, .inl md)), (mrp, .inl (cI, 36, .inl te2_43))] H) e_58 hP
            have hD : va_D A [(M, .inr (9, [.int th, .ref mtx, .int (nI len), .int (nI (zsp s8 + 1 + 4)), .int rt, .int fr, .int pr, .ref mod_, .int (nI n), .ref mne, .ref mro, .int (nI m), .int rrt, .int rfr, .int rpr, .ref mrod, .int (nI (zsn s8)), .ref mrne, .ref mrro, .int (nI (zsm s8)), .ref mrp, .ref mpg, .ref mbk, .int (nI ac), .ref mke, .ref mik, .int (nI cr), .ref mrw, .ref mrd, .long sd, .ref mtr, .ref mwo, .ref mnx, .int jr])), (mtx, .inl (cI, 64, .inl bf)), (mrne, .inl (cI, 5, .inl mv)), (mrro, .inl (cI, 5, .inl md)), (mrp, .inl (cI, 36, .inl te2_43))] := zD_of hD rfl
            refine lv_bipush (v := -9) hx hb dX9_readPart_68 (by decide) ?_
            refine lv_goto (tgt := 79) hx hb dX9_readPart_70 (by decide) ?_
            refine lv_istore_n (lv' := [(3, .int (-9)), (2, .int (if zoR bf len (zsp s8 + 1 + 4) 0 9 = true then nI (zdg bf (zsp s8 + 1 + 4)) else -9)), (1, .int (bf (zsp s8))), (0, .ref M)]) hx hb dX9_readPart_79 rfl hl (by decide) rfl (fun ls hl => ?_)
            refine lv_iload_n hx hb dX9_readPart_80 rfl (lv_at hl 0 rfl) ?_
            refine lv_bipush (v := -9) hx hb dX9_readPart_81 (by decide) ?_
            refine lv_icmp_ne (tgt := 88) hx hb dX9_readPart_83 (by decide) (fun c_59 => ?_) (fun c_59 => ?_)
            · have c_59 : ¬ ((-9 : Int32) = (-9 : Int32)) := c_59
              exact absurd rfl c_59
            · have c_59 : (-9 : Int32) = (-9 : Int32) := c_59
              refine lv_iconst (v := nI 0) hx hb dX9_readPart_86 (by decide) ?_
              have e_60 : nI (zsp s8 + 1 + 4) = nI (zsQ bf len s8) := by first | (rw [hqa, if_neg (by rw [decide_eq_true_eq]; exact hcn.2)]; done) | (rw [hqa, if_neg (by rw [decide_eq_true_eq]; exact hcn.2)]; rfl) | (rw [hqa, if_pos (decide_eq_true h6)]; rfl) | (rw [hqa, if_neg (by rw [decide_eq_true_eq, hcq]; decide)]; rfl) | (rw [hqa, if_pos (decide_eq_true hcq)]; rfl) | (rw [hqa]; rfl) | (rw [hqq, hcn.1]; done) | (rw [hqq, h6]; done) | (rw [hqq, hcq]; done) | (rw [hqq]; done)
              have hP : va_P D vwCl [(M, .inr (9, [.int th, .ref mtx, .int (nI len), .int (nI (zsQ bf len s8)), .int rt, .int fr, .int pr, .ref mod_, .int (nI n), .ref mne, .ref mro, .int (nI m), .int rrt, .int rfr, .int rpr, .ref mrod, .int (nI (zsn s8)), .ref mrne, .ref mrro, .int (nI (zsm s8)), .ref mrp, .ref mpg, .ref mbk, .int (nI ac), .ref mke, .ref mik, .int (nI cr), .ref mrw, .ref mrd, .long sd, .ref mtr, .ref mwo, .ref mnx, .int jr])), (mtx, .inl (cI, 64, .inl bf)), (mrne, .inl (cI, 5, .inl mv)), (mrro, .inl (cI, 5, .inl md)), (mrp, .inl (cI, 36, .inl te2_43))] H := Eq.subst (motive := fun zz_ => va_P D vwCl [(M, .inr (9, [.int th, .ref mtx, .int (nI len), .int zz_, .int rt, .int fr, .int pr, .ref mod_, .int (nI n), .ref mne, .ref mro, .int (nI m), .int rrt, .int rfr, .int rpr, .ref mrod, .int (nI (zsn s8)), .ref mrne, .ref mrro, .int (nI (zsm s8)), .ref mrp, .ref mpg, .ref mbk, .int (nI ac), .ref mke, .ref mik, .int (nI cr), .ref mrw, .ref mrd, .long sd, .ref mtr, .ref mwo, .ref mnx, .int jr])), (mtx, .inl (cI, 64, .inl bf)), (mrne, .inl (cI, 5, .inl mv)), (mrro, .inl (cI, 5, .inl md)), (mrp, .inl (cI, 36, .inl te2_43))] H) e_60 hP
              have hD : va_D A [(M, .inr (9, [.int th, .ref mtx, .int (nI len), .int (nI (zsQ bf len s8)), .int rt, .int fr, .int pr, .ref mod_, .int (nI n), .ref mne, .ref mro, .int (nI m), .int rrt, .int rfr, .int rpr, .ref mrod, .int (nI (zsn s8)), .ref mrne, .ref mrro, .int (nI (zsm s8)), .ref mrp, .ref mpg, .ref mbk, .int (nI ac), .ref mke, .ref mik, .int (nI cr), .ref mrw, .ref mrd, .long sd, .ref mtr, .ref mwo, .ref mnx, .int jr])), (mtx, .inl (cI, 64, .inl bf)), (mrne, .inl (cI, 5, .inl mv)), (mrro, .inl (cI, 5, .inl md)), (mrp, .inl (cI, 36, .inl te2_43))] := zD_of hD rfl
              exact z_zret Z (zsn s8, zsm s8, mv, md, te2_43) (by decide) ⟨(by first | (rw [hqa, if_neg (by rw [decide_eq_true_eq]; exact hcn.2)]; done) | (rw [hqa, if_neg (by rw [decide_eq_true_eq]; exact hcn.2)]; rfl) | (rw [hqa, if_pos (decide_eq_true h6)]; rfl) | (rw [hqa, if_neg (by rw [decide_eq_true_eq, hcq]; decide)]; rfl) | (rw [hqa, if_pos (decide_eq_true hcq)]; rfl) | (rw [hqa]; rfl) | (rw [hqq, hcn.1]; done) | (rw [hqq, h6]; done) | (rw [hqq, hcq]; done) | (rw [hqq]; done)), (by first | (intro z; rw [hqa, decide_eq_true_eq] at z; exact absurd z hcn.2) | exact fun _ => ⟨by rw [zsS_P hq8]; rfl, by rw [zsS_P hq8]; rfl, zmR_P hq8 hI hR⟩ | (intro z; rw [hqa, decide_eq_true_eq, hcq] at z; exact absurd z (by decide)) | exact fun _ => ⟨by rw [zsS_R hq9]; rfl, by rw [zsS_R hq9]; rfl, zmR_R hq9 (by omega) (by omega) hR⟩ | (intro z; rw [hqa] at z; exact absurd z (by decide)))⟩ hP hS dX9_readPart_87
        · have c_44 := zb0 c_44
          have hcn := zqP_n c_44
          refine lv_iconst (v := nI 0) hx hb dX9_readPart_52 (by decide) ?_
          have e_61 : nI ((zsp s8 + 1) + zcq (zoT bf len (zsp s8 + 1)) 4) = nI (zsQ bf len s8) := by first | (rw [hqa, if_neg (by rw [decide_eq_true_eq]; exact hcn.2)]; done) | (rw [hqa, if_neg (by rw [decide_eq_true_eq]; exact hcn.2)]; rfl) | (rw [hqa, if_pos (decide_eq_true h6)]; rfl) | (rw [hqa, if_neg (by rw [decide_eq_true_eq, hcq]; decide)]; rfl) | (rw [hqa, if_pos (decide_eq_true hcq)]; rfl) | (rw [hqa]; rfl) | (rw [hqq, hcn.1]; done) | (rw [hqq, h6]; done) | (rw [hqq, hcq]; done) | (rw [hqq]; done)
          have hP : va_P D vwCl [(M, .inr (9, [.int th, .ref mtx, .int (nI len), .int (nI (zsQ bf len s8)), .int rt, .int fr, .int pr, .ref mod_, .int (nI n), .ref mne, .ref mro, .int (nI m), .int rrt, .int rfr, .int rpr, .ref mrod, .int (nI (zsn s8)), .ref mrne, .ref mrro, .int (nI (zsm s8)), .ref mrp, .ref mpg, .ref mbk, .int (nI ac), .ref mke, .ref mik, .int (nI cr), .ref mrw, .ref mrd, .long sd, .ref mtr, .ref mwo, .ref mnx, .int jr])), (mtx, .inl (cI, 64, .inl bf)), (mrne, .inl (cI, 5, .inl mv)), (mrro, .inl (cI, 5, .inl md)), (mrp, .inl (cI, 36, .inl te2_43))] H := Eq.subst (motive := fun zz_ => va_P D vwCl [(M, .inr (9, [.int th, .ref mtx, .int (nI len), .int zz_, .int rt, .int fr, .int pr, .ref mod_, .int (nI n), .ref mne, .ref mro, .int (nI m), .int rrt, .int rfr, .int rpr, .ref mrod, .int (nI (zsn s8)), .ref mrne, .ref mrro, .int (nI (zsm s8)), .ref mrp, .ref mpg, .ref mbk, .int (nI ac), .ref mke, .ref mik, .int (nI cr), .ref mrw, .ref mrd, .long sd, .ref mtr, .ref mwo, .ref mnx, .int jr])), (mtx, .inl (cI, 64, .inl bf)), (mrne, .inl (cI, 5, .inl mv)), (mrro, .inl (cI, 5, .inl md)), (mrp, .inl (cI, 36, .inl te2_43))] H) e_61 hP
          have hD : va_D A [(M, .inr (9, [.int th, .ref mtx, .int (nI len), .int (nI (zsQ bf len s8)), .int rt, .int fr, .int pr, .ref mod_, .int (nI n), .ref mne, .ref mro, .int (nI m), .int rrt, .int rfr, .int rpr, .ref mrod, .int (nI (zsn s8)), .ref mrne, .ref mrro, .int (nI (zsm s8)), .ref mrp, .ref mpg, .ref mbk, .int (nI ac), .ref mke, .ref mik, .int (nI cr), .ref mrw, .ref mrd, .long sd, .ref mtr, .ref mwo, .ref mnx, .int jr])), (mtx, .inl (cI, 64, .inl bf)), (mrne, .inl (cI, 5, .inl mv)), (mrro, .inl (cI, 5, .inl md)), (mrp, .inl (cI, 36, .inl te2_43))] := zD_of hD rfl
          exact z_zret Z (zsn s8, zsm s8, mv, md, te2_43) (by decide) ⟨(by first | (rw [hqa, if_neg (by rw [decide_eq_true_eq]; exact hcn.2)]; done) | (rw [hqa, if_neg (by rw [decide_eq_true_eq]; exact hcn.2)]; rfl) | (rw [hqa, if_pos (decide_eq_true h6)]; rfl) | (rw [hqa, if_neg (by rw [decide_eq_true_eq, hcq]; decide)]; rfl) | (rw [hqa, if_pos (decide_eq_true hcq)]; rfl) | (rw [hqa]; rfl) | (rw [hqq, hcn.1]; done) | (rw [hqq, h6]; done) | (rw [hqq, hcq]; done) | (rw [hqq]; done)), (by first | (intro z; rw [hqa, decide_eq_true_eq] at z; exact absurd z hcn.2) | exact fun _ => ⟨by rw [zsS_P hq8]; rfl, by rw [zsS_P hq8]; rfl, zmR_P hq8 hI hR⟩ | (intro z; rw [hqa, decide_eq_true_eq, hcq] at z; exact absurd z (by decide)) | exact fun _ => ⟨by rw [zsS_R hq9]; rfl, by rw [zsS_R hq9]; rfl, zmR_R hq9 (by omega) (by omega) hR⟩ | (intro z; rw [hqa] at z; exact absurd z (by decide)))⟩ hP hS dX9_readPart_53
