theorem zand1w : ∀ n, n < 6 → ∀ w, w < 128 → (nI w >>> (nI n &&& 31) = nI (w / 2 ^ n) ∧ nI w &&& nI (2 ^ n - 1) = nI (w % 2 ^ n)) := by decide +kernel
theorem zpow4 : ∀ n, n ≤ 5 → (4 : Int32) <<< (nI n &&& 31) = nI (4 * 2 ^ n) := by decide +kernel
theorem zor0 (x : Int32) : x ||| nI 0 = x := by
  apply Int32.toBitVec_inj.mp; exact BitVec.or_zero
theorem zop_y {f : Nat → Int32} {i : Nat} (h1 : f (25 + i) = -9) (h2 : f (30 + i) = -9) : zop f i ||| zbit i = zop f (i + 1) := (if_pos ⟨h1, h2⟩).symm
theorem zop_n {f : Nat → Int32} {i : Nat} (h : ¬ (f (25 + i) = -9 ∧ f (30 + i) = -9)) : zop f i ||| nI 0 = zop f (i + 1) := by rw [zor0]; exact (if_neg h).symm
theorem zokc_0 {pw pd f : Nat → Int32} {rt fr : Int32} {n ow k s : Nat} : zokc pw pd f rt fr n 0 ow k s = decide (nI s &&& (nI ow ^^^ -1) = 0) := by unfold zokc; exact Bool.and_true _
theorem zokc_s {pw pd f : Nat → Int32} {rt fr : Int32} {n c ow k s : Nat} : zokc pw pd f rt fr n (c + 1) ow k s = (zokc pw pd f rt fr n c ow k s && zfi pw pd f rt fr n k s c) := by
  unfold zokc; exact (Bool.and_assoc _ _ _).symm
theorem zokc_t {pw pd f : Nat → Int32} {rt fr : Int32} {n c ow k s : Nat} (h : zokc pw pd f rt fr n c ow k s = true) (h2 : zfi pw pd f rt fr n k s c = true) : zokc pw pd f rt fr n (c + 1) ow k s = true := by rw [zokc_s, h, h2]; rfl
theorem zokc_f {pw pd f : Nat → Int32} {rt fr : Int32} {n c ow k s : Nat} (h2 : zfi pw pd f rt fr n k s c = false) : ¬ zokc pw pd f rt fr n (c + 1) ow k s = true := by rw [zokc_s, h2, Bool.and_false]; exact Bool.false_ne_true
theorem zokc_m {pw pd f : Nat → Int32} {rt fr : Int32} {n c ow k s : Nat} (h : ¬ zokc pw pd f rt fr n c ow k s = true) : ∀ {d : Nat}, c ≤ d → ¬ zokc pw pd f rt fr n d ow k s = true
  | 0, q => by rw [show c = 0 by omega] at h; exact h
  | d + 1, q => by
    rcases (show c = d + 1 ∨ c ≤ d by omega) with r | r
    · rw [← r]; exact h
    · have ih := zokc_m h r
      rw [zokc_s, Bool.eq_false_iff.mpr ih]; exact Bool.false_ne_true
/-- all tales in one row -/
def ztq (pw pd f : Nat → Int32) (rt fr : Int32) (n c ow : Nat) : Nat → zX
  | 0 => (0, 0, nI ow)
  | w + 1 => zts (zokc pw pd f rt fr n c ow (w / 2 ^ n) (w % 2 ^ n)) (w / 2 ^ n) (w % 2 ^ n) (ztq pw pd f rt fr n c ow w)
theorem ztq_n {pw pd f : Nat → Int32} {rt fr : Int32} {n c ow w k s : Nat} (hk : w / 2 ^ n = k) (hs : w % 2 ^ n = s) (h : ¬ zokc pw pd f rt fr n c ow k s = true) : ztq pw pd f rt fr n c ow w = ztq pw pd f rt fr n c ow (w + 1) := by
  show _ = zts (zokc pw pd f rt fr n c ow (w / 2 ^ n) (w % 2 ^ n)) (w / 2 ^ n) (w % 2 ^ n) (ztq pw pd f rt fr n c ow w)
  rw [hk, hs]; exact (if_neg h).symm
theorem ztq_y {pw pd f : Nat → Int32} {rt fr : Int32} {n c ow w k s : Nat} (hk : w / 2 ^ n = k) (hs : w % 2 ^ n = s) (h : zokc pw pd f rt fr n c ow k s = true) : ((ztq pw pd f rt fr n c ow w).1 + 1, (ztq pw pd f rt fr n c ow w).2.1 ||| zbit k, (ztq pw pd f rt fr n c ow w).2.2 &&& nI s) = ztq pw pd f rt fr n c ow (w + 1) := by
  show _ = zts (zokc pw pd f rt fr n c ow (w / 2 ^ n) (w % 2 ^ n)) (w / 2 ^ n) (w % 2 ^ n) (ztq pw pd f rt fr n c ow w)
  rw [hk, hs]; exact (if_pos h).symm
theorem zsub : ∀ o, o < 32 → ∀ s, s < 32 → o < s → ¬ nI s &&& (nI o ^^^ -1) = 0 := by decide +kernel
theorem ztw_cut {pw pd f : Nat → Int32} {rt fr : Int32} {n c ow k : Nat} {x : zX} (ho : ow < 2 ^ n) (hn : n ≤ 5) : ∀ s, ow + 1 ≤ s → s ≤ 2 ^ n → ztw (zokc pw pd f rt fr n c ow k) k x s = ztw (zokc pw pd f rt fr n c ow k) k x (ow + 1)
  | 0, h, _ => by omega
  | s + 1, h, h2 => by
    rcases (show s = ow ∨ ow + 1 ≤ s by omega) with r | r
    · rw [r]
    · have hp := zp2b hn
      rw [ztw_no (zokc_no1 (zsub ow (by omega) s (by omega) (by omega)))]
      exact ztw_cut ho hn s r (by omega)
theorem ztq_in {pw pd f : Nat → Int32} {rt fr : Int32} {n c ow k : Nat} : ∀ s, s ≤ 2 ^ n → ztq pw pd f rt fr n c ow (k * 2 ^ n + s) = ztw (zokc pw pd f rt fr n c ow k) k (ztq pw pd f rt fr n c ow (k * 2 ^ n)) s
  | 0, _ => rfl
  | s + 1, h => by
    have h0 : 0 < 2 ^ n := Nat.two_pow_pos n
    have e1 : (k * 2 ^ n + s) / 2 ^ n = k := by rw [Nat.add_comm, Nat.add_mul_div_right _ _ h0, Nat.div_eq_of_lt (by omega)]; exact Nat.zero_add k
    have e2 : (k * 2 ^ n + s) % 2 ^ n = s := by rw [Nat.add_comm, Nat.add_mul_mod_self_right, Nat.mod_eq_of_lt (by omega)]
    show zts (zokc pw pd f rt fr n c ow ((k * 2 ^ n + s) / 2 ^ n) ((k * 2 ^ n + s) % 2 ^ n)) ((k * 2 ^ n + s) / 2 ^ n) ((k * 2 ^ n + s) % 2 ^ n) (ztq pw pd f rt fr n c ow (k * 2 ^ n + s)) = zts (zokc pw pd f rt fr n c ow k s) k s (ztw (zokc pw pd f rt fr n c ow k) k (ztq pw pd f rt fr n c ow (k * 2 ^ n)) s)
    rw [e1, e2, ztq_in s (by omega)]
theorem ztq_k {pw pd f : Nat → Int32} {rt fr : Int32} {n c ow : Nat} (ho : ow < 2 ^ n) (hn : n ≤ 5) : ∀ k, ztq pw pd f rt fr n c ow (k * 2 ^ n) = ztk (zokc pw pd f rt fr n c ow) ow (0, 0, nI ow) k
  | 0 => by rw [Nat.zero_mul]; rfl
  | k + 1 => by
    rw [Nat.succ_mul, ztq_in _ (Nat.le_refl _), ztw_cut ho hn _ (by omega) (Nat.le_refl _), ztq_k ho hn k]; rfl
theorem ztq_end {pw pd f : Nat → Int32} {rt fr : Int32} {n c ow w : Nat} (ho : ow < 2 ^ n) (hn : n ≤ 5) (hw : w = 4 * 2 ^ n) : ztq pw pd f rt fr n c ow w = ztal pw pd f rt fr n c ow := by rw [hw]; exact ztq_k ho hn 4
theorem zfi_t {pw pd f : Nat → Int32} {rt fr : Int32} {n k w i p : Nat} (hw : pw i = nI p) (hp : p < n) (hn : n ≤ 5) (hz : ¬ zin (nI w) p) (h : pd i = ztax f rt fr p k) : zfi pw pd f rt fr n k w i = true := by
  rw [zfi_p hw hp (by omega), if_pos (Classical.not_not.mp hz)]; exact decide_eq_true h
theorem zfi_t2 {pw pd f : Nat → Int32} {rt fr : Int32} {n k w i p : Nat} (hw : pw i = nI p) (hp : p < n) (hn : n ≤ 5) (hz : zin (nI w) p) (h : pd i = nI 0) : zfi pw pd f rt fr n k w i = true := by
  rw [zfi_p hw hp (by omega), if_neg hz]; exact decide_eq_true h
theorem zfi_f {pw pd f : Nat → Int32} {rt fr : Int32} {n k w i p : Nat} (hw : pw i = nI p) (hp : p < n) (hn : n ≤ 5) (hz : ¬ zin (nI w) p) (h : ¬ pd i = ztax f rt fr p k) : zfi pw pd f rt fr n k w i = false := by
  rw [zfi_p hw hp (by omega), if_pos (Classical.not_not.mp hz)]; exact decide_eq_false h
theorem zfi_f2 {pw pd f : Nat → Int32} {rt fr : Int32} {n k w i p : Nat} (hw : pw i = nI p) (hp : p < n) (hn : n ≤ 5) (hz : zin (nI w) p) (h : ¬ pd i = nI 0) : zfi pw pd f rt fr n k w i = false := by
  rw [zfi_p hw hp (by omega), if_neg hz]; exact decide_eq_false h
theorem zfi_x {pw pd f : Nat → Int32} {rt fr : Int32} {n k w i p : Nat} (hw : pw i = nI p) (hp : n ≤ p) (hp2 : p < 1000) (hn : n ≤ 5) : zfi pw pd f rt fr n k w i = true := zfi_n (by rw [hw]; exact fun q => q.2 (nI_le hp (by omega)))
theorem dX9_tales_0 : decode cX9_tales 0 = .ok (.aload_n 0, 1) := by decide +kernel
theorem dX9_tales_1 : decode cX9_tales 1 = .ok (.iconst 0, 1) := by decide +kernel
theorem dX9_tales_2 : decode cX9_tales 2 = .ok (.putfield 62, 3) := by decide +kernel
theorem dX9_tales_5 : decode cX9_tales 5 = .ok (.iload_n 1, 1) := by decide +kernel
theorem dX9_tales_6 : decode cX9_tales 6 = .ok (.i2l, 1) := by decide +kernel
theorem dX9_tales_7 : decode cX9_tales 7 = .ok (.lconst 0, 1) := by decide +kernel
theorem dX9_tales_8 : decode cX9_tales 8 = .ok (.ldc2_w 217, 3) := by decide +kernel
theorem dX9_tales_11 : decode cX9_tales 11 = .ok (.invokestatic 69, 3) := by decide +kernel
theorem dX9_tales_14 : decode cX9_tales 14 = .ok (.ifCond .ne 6, 3) := by decide +kernel
theorem dX9_tales_17 : decode cX9_tales 17 = .ok (.bipush (-2), 2) := by decide +kernel
theorem dX9_tales_19 : decode cX9_tales 19 = .ok (.ireturn, 1) := by decide +kernel
theorem dX9_tales_20 : decode cX9_tales 20 = .ok (.iconst 0, 1) := by decide +kernel
theorem dX9_tales_21 : decode cX9_tales 21 = .ok (.istore_n 2, 1) := by decide +kernel
theorem dX9_tales_22 : decode cX9_tales 22 = .ok (.iconst 0, 1) := by decide +kernel
theorem dX9_tales_23 : decode cX9_tales 23 = .ok (.istore_n 3, 1) := by decide +kernel
theorem dX9_tales_24 : decode cX9_tales 24 = .ok (.iload_n 3, 1) := by decide +kernel
theorem dX9_tales_25 : decode cX9_tales 25 = .ok (.aload_n 0, 1) := by decide +kernel
theorem dX9_tales_26 : decode cX9_tales 26 = .ok (.getfield 66, 3) := by decide +kernel
theorem dX9_tales_29 : decode cX9_tales 29 = .ok (.if_icmp .ge 52, 3) := by decide +kernel
theorem dX9_tales_32 : decode cX9_tales 32 = .ok (.iload_n 2, 1) := by decide +kernel
theorem dX9_tales_33 : decode cX9_tales 33 = .ok (.aload_n 0, 1) := by decide +kernel
theorem dX9_tales_34 : decode cX9_tales 34 = .ok (.getfield 34, 3) := by decide +kernel
theorem dX9_tales_37 : decode cX9_tales 37 = .ok (.bipush 7, 2) := by decide +kernel
theorem dX9_tales_39 : decode cX9_tales 39 = .ok (.iload_n 3, 1) := by decide +kernel
theorem dX9_tales_40 : decode cX9_tales 40 = .ok (.imul, 1) := by decide +kernel
theorem dX9_tales_41 : decode cX9_tales 41 = .ok (.iconst 5, 1) := by decide +kernel
theorem dX9_tales_42 : decode cX9_tales 42 = .ok (.iadd, 1) := by decide +kernel
theorem dX9_tales_43 : decode cX9_tales 43 = .ok (.iaload, 1) := by decide +kernel
theorem dX9_tales_44 : decode cX9_tales 44 = .ok (.bipush (-9), 2) := by decide +kernel
theorem dX9_tales_46 : decode cX9_tales 46 = .ok (.if_icmp .ne 26, 3) := by decide +kernel
theorem dX9_tales_49 : decode cX9_tales 49 = .ok (.aload_n 0, 1) := by decide +kernel
theorem dX9_tales_50 : decode cX9_tales 50 = .ok (.getfield 34, 3) := by decide +kernel
theorem dX9_tales_53 : decode cX9_tales 53 = .ok (.bipush 7, 2) := by decide +kernel
theorem dX9_tales_55 : decode cX9_tales 55 = .ok (.iload_n 3, 1) := by decide +kernel
theorem dX9_tales_56 : decode cX9_tales 56 = .ok (.imul, 1) := by decide +kernel
theorem dX9_tales_57 : decode cX9_tales 57 = .ok (.bipush 6, 2) := by decide +kernel
theorem dX9_tales_59 : decode cX9_tales 59 = .ok (.iadd, 1) := by decide +kernel
theorem dX9_tales_60 : decode cX9_tales 60 = .ok (.iaload, 1) := by decide +kernel
theorem dX9_tales_61 : decode cX9_tales 61 = .ok (.bipush (-9), 2) := by decide +kernel
theorem dX9_tales_63 : decode cX9_tales 63 = .ok (.if_icmp .ne 9, 3) := by decide +kernel
theorem dX9_tales_66 : decode cX9_tales 66 = .ok (.iconst 1, 1) := by decide +kernel
theorem dX9_tales_67 : decode cX9_tales 67 = .ok (.iload_n 3, 1) := by decide +kernel
theorem dX9_tales_68 : decode cX9_tales 68 = .ok (.ishl, 1) := by decide +kernel
theorem dX9_tales_69 : decode cX9_tales 69 = .ok (.goto 4, 3) := by decide +kernel
theorem dX9_tales_72 : decode cX9_tales 72 = .ok (.iconst 0, 1) := by decide +kernel
theorem dX9_tales_73 : decode cX9_tales 73 = .ok (.ior, 1) := by decide +kernel
theorem dX9_tales_74 : decode cX9_tales 74 = .ok (.istore_n 2, 1) := by decide +kernel
theorem dX9_tales_75 : decode cX9_tales 75 = .ok (.iinc 3 1, 3) := by decide +kernel
theorem dX9_tales_78 : decode cX9_tales 78 = .ok (.goto (-54), 3) := by decide +kernel
theorem dX9_tales_81 : decode cX9_tales 81 = .ok (.iconst 0, 1) := by decide +kernel
theorem dX9_tales_82 : decode cX9_tales 82 = .ok (.istore_n 3, 1) := by decide +kernel
theorem dX9_tales_83 : decode cX9_tales 83 = .ok (.iconst 0, 1) := by decide +kernel
theorem dX9_tales_84 : decode cX9_tales 84 = .ok (.istore 4, 2) := by decide +kernel
theorem dX9_tales_86 : decode cX9_tales 86 = .ok (.iload_n 2, 1) := by decide +kernel
theorem dX9_tales_87 : decode cX9_tales 87 = .ok (.istore 5, 2) := by decide +kernel
theorem dX9_tales_89 : decode cX9_tales 89 = .ok (.iconst 0, 1) := by decide +kernel
theorem dX9_tales_90 : decode cX9_tales 90 = .ok (.istore 6, 2) := by decide +kernel
theorem dX9_tales_92 : decode cX9_tales 92 = .ok (.iload 6, 2) := by decide +kernel
theorem dX9_tales_94 : decode cX9_tales 94 = .ok (.iconst 4, 1) := by decide +kernel
theorem dX9_tales_95 : decode cX9_tales 95 = .ok (.aload_n 0, 1) := by decide +kernel
theorem dX9_tales_96 : decode cX9_tales 96 = .ok (.getfield 66, 3) := by decide +kernel
theorem dX9_tales_99 : decode cX9_tales 99 = .ok (.ishl, 1) := by decide +kernel
theorem dX9_tales_100 : decode cX9_tales 100 = .ok (.if_icmp .ge 155, 3) := by decide +kernel
theorem dX9_tales_103 : decode cX9_tales 103 = .ok (.iload 6, 2) := by decide +kernel
theorem dX9_tales_105 : decode cX9_tales 105 = .ok (.aload_n 0, 1) := by decide +kernel
theorem dX9_tales_106 : decode cX9_tales 106 = .ok (.getfield 66, 3) := by decide +kernel
theorem dX9_tales_109 : decode cX9_tales 109 = .ok (.ishr, 1) := by decide +kernel
theorem dX9_tales_110 : decode cX9_tales 110 = .ok (.istore 7, 2) := by decide +kernel
theorem dX9_tales_112 : decode cX9_tales 112 = .ok (.iload 6, 2) := by decide +kernel
theorem dX9_tales_114 : decode cX9_tales 114 = .ok (.iconst 1, 1) := by decide +kernel
theorem dX9_tales_115 : decode cX9_tales 115 = .ok (.aload_n 0, 1) := by decide +kernel
theorem dX9_tales_116 : decode cX9_tales 116 = .ok (.getfield 66, 3) := by decide +kernel
theorem dX9_tales_119 : decode cX9_tales 119 = .ok (.ishl, 1) := by decide +kernel
theorem dX9_tales_120 : decode cX9_tales 120 = .ok (.iconst 1, 1) := by decide +kernel
theorem dX9_tales_121 : decode cX9_tales 121 = .ok (.isub, 1) := by decide +kernel
theorem dX9_tales_122 : decode cX9_tales 122 = .ok (.iand, 1) := by decide +kernel
theorem dX9_tales_123 : decode cX9_tales 123 = .ok (.istore 8, 2) := by decide +kernel
theorem dX9_tales_125 : decode cX9_tales 125 = .ok (.iload 8, 2) := by decide +kernel
theorem dX9_tales_127 : decode cX9_tales 127 = .ok (.iload_n 2, 1) := by decide +kernel
theorem dX9_tales_128 : decode cX9_tales 128 = .ok (.iconst (-1), 1) := by decide +kernel
theorem dX9_tales_129 : decode cX9_tales 129 = .ok (.ixor, 1) := by decide +kernel
theorem dX9_tales_130 : decode cX9_tales 130 = .ok (.iand, 1) := by decide +kernel
theorem dX9_tales_131 : decode cX9_tales 131 = .ok (.ifCond .ne 7, 3) := by decide +kernel
theorem dX9_tales_134 : decode cX9_tales 134 = .ok (.iconst 1, 1) := by decide +kernel
theorem dX9_tales_135 : decode cX9_tales 135 = .ok (.goto 4, 3) := by decide +kernel
theorem dX9_tales_138 : decode cX9_tales 138 = .ok (.iconst 0, 1) := by decide +kernel
theorem dX9_tales_139 : decode cX9_tales 139 = .ok (.istore 9, 2) := by decide +kernel
theorem dX9_tales_141 : decode cX9_tales 141 = .ok (.iconst 0, 1) := by decide +kernel
theorem dX9_tales_142 : decode cX9_tales 142 = .ok (.istore 10, 2) := by decide +kernel
theorem dX9_tales_144 : decode cX9_tales 144 = .ok (.iload 10, 2) := by decide +kernel
theorem dX9_tales_146 : decode cX9_tales 146 = .ok (.aload_n 0, 1) := by decide +kernel
theorem dX9_tales_147 : decode cX9_tales 147 = .ok (.getfield 144, 3) := by decide +kernel
theorem dX9_tales_150 : decode cX9_tales 150 = .ok (.if_icmp .ge 75, 3) := by decide +kernel
theorem dX9_tales_153 : decode cX9_tales 153 = .ok (.iload 9, 2) := by decide +kernel
theorem dX9_tales_155 : decode cX9_tales 155 = .ok (.ifCond .eq 70, 3) := by decide +kernel
theorem dX9_tales_158 : decode cX9_tales 158 = .ok (.aload_n 0, 1) := by decide +kernel
theorem dX9_tales_159 : decode cX9_tales 159 = .ok (.getfield 47, 3) := by decide +kernel
theorem dX9_tales_162 : decode cX9_tales 162 = .ok (.iload 10, 2) := by decide +kernel
theorem dX9_tales_164 : decode cX9_tales 164 = .ok (.iaload, 1) := by decide +kernel
theorem dX9_tales_165 : decode cX9_tales 165 = .ok (.istore 11, 2) := by decide +kernel
theorem dX9_tales_167 : decode cX9_tales 167 = .ok (.iload 11, 2) := by decide +kernel
theorem dX9_tales_169 : decode cX9_tales 169 = .ok (.aload_n 0, 1) := by decide +kernel
theorem dX9_tales_170 : decode cX9_tales 170 = .ok (.getfield 66, 3) := by decide +kernel
theorem dX9_tales_173 : decode cX9_tales 173 = .ok (.if_icmp .ge 39, 3) := by decide +kernel
theorem dX9_tales_176 : decode cX9_tales 176 = .ok (.aload_n 0, 1) := by decide +kernel
theorem dX9_tales_177 : decode cX9_tales 177 = .ok (.getfield 50, 3) := by decide +kernel
theorem dX9_tales_180 : decode cX9_tales 180 = .ok (.iload 10, 2) := by decide +kernel
theorem dX9_tales_182 : decode cX9_tales 182 = .ok (.iaload, 1) := by decide +kernel
theorem dX9_tales_183 : decode cX9_tales 183 = .ok (.iload 8, 2) := by decide +kernel
theorem dX9_tales_185 : decode cX9_tales 185 = .ok (.iload 11, 2) := by decide +kernel
theorem dX9_tales_187 : decode cX9_tales 187 = .ok (.invokestatic 105, 3) := by decide +kernel
theorem dX9_tales_190 : decode cX9_tales 190 = .ok (.ifCond .eq 7, 3) := by decide +kernel
theorem dX9_tales_193 : decode cX9_tales 193 = .ok (.iconst 0, 1) := by decide +kernel
theorem dX9_tales_194 : decode cX9_tales 194 = .ok (.goto 15, 3) := by decide +kernel
theorem dX9_tales_197 : decode cX9_tales 197 = .ok (.aload_n 0, 1) := by decide +kernel
theorem dX9_tales_198 : decode cX9_tales 198 = .ok (.aload_n 0, 1) := by decide +kernel
theorem dX9_tales_199 : decode cX9_tales 199 = .ok (.getfield 34, 3) := by decide +kernel
theorem dX9_tales_202 : decode cX9_tales 202 = .ok (.iload 11, 2) := by decide +kernel
theorem dX9_tales_204 : decode cX9_tales 204 = .ok (.iload 7, 2) := by decide +kernel
theorem dX9_tales_206 : decode cX9_tales 206 = .ok (.invokevirtual 156, 3) := by decide +kernel
theorem dX9_tales_209 : decode cX9_tales 209 = .ok (.if_icmp .ne 7, 3) := by decide +kernel
theorem dX9_tales_212 : decode cX9_tales 212 = .ok (.iconst 1, 1) := by decide +kernel
theorem dX9_tales_213 : decode cX9_tales 213 = .ok (.goto 4, 3) := by decide +kernel
theorem dX9_tales_216 : decode cX9_tales 216 = .ok (.iconst 0, 1) := by decide +kernel
theorem dX9_tales_217 : decode cX9_tales 217 = .ok (.istore 9, 2) := by decide +kernel
theorem dX9_tales_219 : decode cX9_tales 219 = .ok (.iinc 10 1, 3) := by decide +kernel
theorem dX9_tales_222 : decode cX9_tales 222 = .ok (.goto (-78), 3) := by decide +kernel
theorem dX9_tales_225 : decode cX9_tales 225 = .ok (.iload 9, 2) := by decide +kernel
theorem dX9_tales_227 : decode cX9_tales 227 = .ok (.ifCond .eq 22, 3) := by decide +kernel
theorem dX9_tales_230 : decode cX9_tales 230 = .ok (.iinc 3 1, 3) := by decide +kernel
theorem dX9_tales_233 : decode cX9_tales 233 = .ok (.iload 4, 2) := by decide +kernel
theorem dX9_tales_235 : decode cX9_tales 235 = .ok (.iconst 1, 1) := by decide +kernel
theorem dX9_tales_236 : decode cX9_tales 236 = .ok (.iload 7, 2) := by decide +kernel
theorem dX9_tales_238 : decode cX9_tales 238 = .ok (.ishl, 1) := by decide +kernel
theorem dX9_tales_239 : decode cX9_tales 239 = .ok (.ior, 1) := by decide +kernel
theorem dX9_tales_240 : decode cX9_tales 240 = .ok (.istore 4, 2) := by decide +kernel
theorem dX9_tales_242 : decode cX9_tales 242 = .ok (.iload 5, 2) := by decide +kernel
theorem dX9_tales_244 : decode cX9_tales 244 = .ok (.iload 8, 2) := by decide +kernel
theorem dX9_tales_246 : decode cX9_tales 246 = .ok (.iand, 1) := by decide +kernel
theorem dX9_tales_247 : decode cX9_tales 247 = .ok (.istore 5, 2) := by decide +kernel
theorem dX9_tales_249 : decode cX9_tales 249 = .ok (.iinc 6 1, 3) := by decide +kernel
theorem dX9_tales_252 : decode cX9_tales 252 = .ok (.goto (-160), 3) := by decide +kernel
theorem dX9_tales_255 : decode cX9_tales 255 = .ok (.iload_n 1, 1) := by decide +kernel
theorem dX9_tales_256 : decode cX9_tales 256 = .ok (.ifCond .ne 7, 3) := by decide +kernel
theorem dX9_tales_259 : decode cX9_tales 259 = .ok (.iload_n 3, 1) := by decide +kernel
theorem dX9_tales_260 : decode cX9_tales 260 = .ok (.goto 24, 3) := by decide +kernel
theorem dX9_tales_263 : decode cX9_tales 263 = .ok (.iload_n 1, 1) := by decide +kernel
theorem dX9_tales_264 : decode cX9_tales 264 = .ok (.iconst 1, 1) := by decide +kernel
theorem dX9_tales_265 : decode cX9_tales 265 = .ok (.if_icmp .ne 8, 3) := by decide +kernel
theorem dX9_tales_268 : decode cX9_tales 268 = .ok (.iload 4, 2) := by decide +kernel
theorem dX9_tales_270 : decode cX9_tales 270 = .ok (.goto 14, 3) := by decide +kernel
theorem dX9_tales_273 : decode cX9_tales 273 = .ok (.iload_n 3, 1) := by decide +kernel
theorem dX9_tales_274 : decode cX9_tales 274 = .ok (.ifCond .ne 8, 3) := by decide +kernel
theorem dX9_tales_277 : decode cX9_tales 277 = .ok (.bipush (-9), 2) := by decide +kernel
theorem dX9_tales_279 : decode cX9_tales 279 = .ok (.goto 5, 3) := by decide +kernel
theorem dX9_tales_282 : decode cX9_tales 282 = .ok (.iload 5, 2) := by decide +kernel
theorem dX9_tales_284 : decode cX9_tales 284 = .ok (.ireturn, 1) := by decide +kernel
theorem zd_X9_tales : yX9_tales.cls ≠ "java/lang/invoke/MethodHandle" ∧ yX9_tales.cls ≠ "java/lang/invoke/VarHandle" ∧ (parseMethodDescriptor yX9_tales.desc).map (fun d => d.parameters.length) = some 1 := by decide +kernel
set_option maxHeartbeats 4000000 in
set_option maxRecDepth 100000 in
theorem zc_X9_tales (l : Launch) (D : va_G) (cI cZ : ClassId) (M : Nat) (th : Int32) (mtx : Nat) (len : Nat) (pl : Nat) (rt : Int32) (fr : Int32) (pr : Int32) (mod_ : Nat) (n : Nat) (mne : Nat) (mro : Nat) (m : Nat) (rrt : Int32) (rfr : Int32) (rpr : Int32) (mrod : Nat) (rn9 : Nat) (mrne : Nat) (mrro : Nat) (rm9 : Nat) (mrp : Nat) (mpg : Nat) (mbk : Nat) (ac : Nat) (mke : Nat) (mik : Nat) (cr : Nat) (mrw : Nat) (mrd : Nat) (sd : Int64) (mtr : Nat) (mwo : Nat) (mnx : Nat) (jr : Int32) (g : Nat → Int32) (f : Nat → Int32) (pw : Nat → Int32) (pd : Nat → Int32) (x1 : Int32) (hn : n ≤ 5) (hcr : cr ≤ 6) (hpg : zpr n f g) (hpw : ∀ i, i < cr → ∃ a, a < 5 ∧ pw i = nI a) : zI l yX9_tales cX9_tales 12 .int 2 49 D cI cZ [.ref M, .int x1] [(M, .inr (9, [.int th, .ref mtx, .int (nI len), .int (nI pl), .int rt, .int fr, .int pr, .ref mod_, .int (nI n), .ref mne, .ref mro, .int (nI m), .int rrt, .int rfr, .int rpr, .ref mrod, .int (nI rn9), .ref mrne, .ref mrro, .int (nI rm9), .ref mrp, .ref mpg, .ref mbk, .int (nI ac), .ref mke, .ref mik, .int (nI cr), .ref mrw, .ref mrd, .long sd, .ref mtr, .ref mwo, .ref mnx, .int jr])), (mpg, .inl (cI, 36, .inl g)), (mrw, .inl (cI, 6, .inl pw)), (mrd, .inl (cI, 6, .inl pd))] (fun (r : Int32) (u : Unit) => r = zRa 0 2 x1 (fun c => zb3 (nI c) (ztal pw pd f rt fr n cr (zopN f n)).1 (ztal pw pd f rt fr n cr (zopN f n)).2.1 (if (ztal pw pd f rt fr n cr (zopN f n)).1 = 0 then -9 else (ztal pw pd f rt fr n cr (zopN f n)).2.2)) (-2)) (fun (u : Unit) => [(M, .inr (9, [.int (nI 0), .ref mtx, .int (nI len), .int (nI pl), .int rt, .int fr, .int pr, .ref mod_, .int (nI n), .ref mne, .ref mro, .int (nI m), .int rrt, .int rfr, .int rpr, .ref mrod, .int (nI rn9), .ref mrne, .ref mrro, .int (nI rm9), .ref mrp, .ref mpg, .ref mbk, .int (nI ac), .ref mke, .ref mik, .int (nI cr), .ref mrw, .ref mrd, .long sd, .ref mtr, .ref mwo, .ref mnx, .int jr])), (mpg, .inl (cI, 36, .inl g)), (mrw, .inl (cI, 6, .inl pw)), (mrd, .inl (cI, 6, .inl pd))]) := by
  refine zI_of (by decide) (Nat.le_of_ble_eq_true rfl) ?_
  intro pP eE sS mM aA bB mT cC A ls Z hP hD hS hl
  have hx := Z.1
  have hb := Z.2.1
  have hown := Z.2.2.2.2.2.1
  have hts := Z.2.2.2.2.1
  have Z : zAt pP sS mM aA mT cC D cI cZ A "SurpriseTaxModel" cX9_tales 12 (some .int) := Z
  have hl : lv_has ls 12 [(0, .ref M), (1, .int x1)] := hl
  obtain ⟨H, hH⟩ : ∃ H, H = sS.heap := ⟨_, rfl⟩
  have hP : va_P D vwCl [(M, .inr (9, [.int th, .ref mtx, .int (nI len), .int (nI pl), .int rt, .int fr, .int pr, .ref mod_, .int (nI n), .ref mne, .ref mro, .int (nI m), .int rrt, .int rfr, .int rpr, .ref mrod, .int (nI rn9), .ref mrne, .ref mrro, .int (nI rm9), .ref mrp, .ref mpg, .ref mbk, .int (nI ac), .ref mke, .ref mik, .int (nI cr), .ref mrw, .ref mrd, .long sd, .ref mtr, .ref mwo, .ref mnx, .int jr])), (mpg, .inl (cI, 36, .inl g)), (mrw, .inl (cI, 6, .inl pw)), (mrd, .inl (cI, 6, .inl pd))] H := by rw [hH]; exact hP
  have hS : va_S A sS.heap H [] := by rw [hH]; exact hS
  rw [← hH]
  clear hH
  obtain ⟨locs, hlo⟩ : ∃ q : List Loc, q = [] := ⟨_, rfl⟩
  rw [← hlo] at hS ⊢
  clear hlo
  refine lv_aload_n hx hb dX9_tales_0 rfl (lv_at hl 0 rfl) ?_
  refine lv_iconst (v := nI 0) hx hb dX9_tales_1 (by decide) ?_
  refine z_put (ci := 9) (v := .int (nI 0)) Z zin9 tyX9 tyX9_ok nmX9 hP hD hS 0 rfl rfl 0 (by decide) zm677 rfl rfl rfl rfl (Nat.le_of_ble_eq_true rfl) dX9_tales_2 (fun H locs hP hD hS => ?_)
  have hP : va_P D vwCl [(M, .inr (9, [.int (nI 0), .ref mtx, .int (nI len), .int (nI pl), .int rt, .int fr, .int pr, .ref mod_, .int (nI n), .ref mne, .ref mro, .int (nI m), .int rrt, .int rfr, .int rpr, .ref mrod, .int (nI rn9), .ref mrne, .ref mrro, .int (nI rm9), .ref mrp, .ref mpg, .ref mbk, .int (nI ac), .ref mke, .ref mik, .int (nI cr), .ref mrw, .ref mrd, .long sd, .ref mtr, .ref mwo, .ref mnx, .int jr])), (mpg, .inl (cI, 36, .inl g)), (mrw, .inl (cI, 6, .inl pw)), (mrd, .inl (cI, 6, .inl pd))] H := hP
  have hD : va_D A [(M, .inr (9, [.int (nI 0), .ref mtx, .int (nI len), .int (nI pl), .int rt, .int fr, .int pr, .ref mod_, .int (nI n), .ref mne, .ref mro, .int (nI m), .int rrt, .int rfr, .int rpr, .ref mrod, .int (nI rn9), .ref mrne, .ref mrro, .int (nI rm9), .ref mrp, .ref mpg, .ref mbk, .int (nI ac), .ref mke, .ref mik, .int (nI cr), .ref mrw, .ref mrd, .long sd, .ref mtr, .ref mwo, .ref mnx, .int jr])), (mpg, .inl (cI, 36, .inl g)), (mrw, .inl (cI, 6, .inl pw)), (mrd, .inl (cI, 6, .inl pd))] := hD
  refine lv_iload_n hx hb dX9_tales_5 rfl (lv_at hl 1 rfl) ?_
  refine lv_i2l (v := x1.toInt64) hx hb dX9_tales_6 rfl ?_
  refine lv_lconst (v := 0) hx hb dX9_tales_7 (by decide) ?_
  refine lv_ldc2 (v := 2) hx hb hown (hts _ zm915) dX9_tales_8 ?_
  refine z_callSi (As := [.long x1.toInt64, .long 0, .long 2]) (rest := []) Z hP hD hS hl.1 (zc_X9_in l D cI cZ x1.toInt64 0 2 ) zm750 zm751 zm39 zm752 zd_X9_in ⟨Nat.le_of_ble_eq_true rfl, Nat.le_of_ble_eq_true rfl⟩ ⟨Nat.zero_le _, Nat.zero_le _⟩ [] rfl (by decide) (fun _ => rfl) rfl (Nat.le_of_ble_eq_true rfl) rfl dX9_tales_11 (fun r_1 u H locs h_2 hP hD hS => ?_)
  have hP : va_P D vwCl [(M, .inr (9, [.int (nI 0), .ref mtx, .int (nI len), .int (nI pl), .int rt, .int fr, .int pr, .ref mod_, .int (nI n), .ref mne, .ref mro, .int (nI m), .int rrt, .int rfr, .int rpr, .ref mrod, .int (nI rn9), .ref mrne, .ref mrro, .int (nI rm9), .ref mrp, .ref mpg, .ref mbk, .int (nI ac), .ref mke, .ref mik, .int (nI cr), .ref mrw, .ref mrd, .long sd, .ref mtr, .ref mwo, .ref mnx, .int jr])), (mpg, .inl (cI, 36, .inl g)), (mrw, .inl (cI, 6, .inl pw)), (mrd, .inl (cI, 6, .inl pd))] H := hP
  have hD : va_D A [(M, .inr (9, [.int (nI 0), .ref mtx, .int (nI len), .int (nI pl), .int rt, .int fr, .int pr, .ref mod_, .int (nI n), .ref mne, .ref mro, .int (nI m), .int rrt, .int rfr, .int rpr, .ref mrod, .int (nI rn9), .ref mrne, .ref mrro, .int (nI rm9), .ref mrp, .ref mpg, .ref mbk, .int (nI ac), .ref mke, .ref mik, .int (nI cr), .ref mrw, .ref mrd, .long sd, .ref mtr, .ref mwo, .ref mnx, .int jr])), (mpg, .inl (cI, 36, .inl g)), (mrw, .inl (cI, 6, .inl pw)), (mrd, .inl (cI, 6, .inl pd))] := hD
  have h_2 : r_1 = if ¬ x1.toInt64 < 0 ∧ ¬ 2 < x1.toInt64 then 1 else 0 := h_2
  subst h_2
  refine lv_if_ne (tgt := 20) hx hb dX9_tales_14 (by decide) (fun c_3 => ?_) (fun c_3 => ?_)
  · have c_3 := zb1 c_3
    have hrg := (zinr (x := x1) 0 2 rfl rfl).mp c_3
    obtain ⟨c, hc0, hc, rfl⟩ := zRa_of (lo := 0) (hi := 2) (by decide) (by decide) hrg.1 hrg.2
    have h2n := zp2b hn
    have h2p : 0 < 2 ^ n := Nat.two_pow_pos n
    have how := zopN_lt f n
    refine lv_iconst (v := nI 0) hx hb dX9_tales_20 (by decide) ?_
    refine lv_istore_n (lv' := [(2, .int (nI 0)), (0, .ref M), (1, .int (nI c))]) hx hb dX9_tales_21 rfl hl (by decide) rfl (fun ls hl => ?_)
    refine lv_iconst (v := nI 0) hx hb dX9_tales_22 (by decide) ?_
    refine lv_istore_n (lv' := [(3, .int (nI 0)), (2, .int (nI 0)), (0, .ref M), (1, .int (nI c))]) hx hb dX9_tales_23 rfl hl (by decide) rfl (fun ls hl => ?_)
    have hl : lv_has ls 12 [(3, .int (nI 0)), (2, .int (nI 0)), (0, .ref M), (1, .int (nI c))] := lv_sub hl [0, 1, 2, 3] rfl
    have e_5 : nI 0 = zop f 0 := by rfl
    have hl : lv_has ls 12 [(3, .int (nI 0)), (2, .int (zop f 0)), (0, .ref M), (1, .int (nI c))] := Eq.subst (motive := fun zz_ => lv_has ls 12 [(3, .int (nI 0)), (2, .int zz_), (0, .ref M), (1, .int (nI c))]) e_5 hl
    refine z_loop (fun i H locs ls => va_P D vwCl [(M, .inr (9, [.int (nI 0), .ref mtx, .int (nI len), .int (nI pl), .int rt, .int fr, .int pr, .ref mod_, .int (nI n), .ref mne, .ref mro, .int (nI m), .int rrt, .int rfr, .int rpr, .ref mrod, .int (nI rn9), .ref mrne, .ref mrro, .int (nI rm9), .ref mrp, .ref mpg, .ref mbk, .int (nI ac), .ref mke, .ref mik, .int (nI cr), .ref mrw, .ref mrd, .long sd, .ref mtr, .ref mwo, .ref mnx, .int jr])), (mpg, .inl (cI, 36, .inl g)), (mrw, .inl (cI, 6, .inl pw)), (mrd, .inl (cI, 6, .inl pd))] H ∧ va_D A [(M, .inr (9, [.int (nI 0), .ref mtx, .int (nI len), .int (nI pl), .int rt, .int fr, .int pr, .ref mod_, .int (nI n), .ref mne, .ref mro, .int (nI m), .int rrt, .int rfr, .int rpr, .ref mrod, .int (nI rn9), .ref mrne, .ref mrro, .int (nI rm9), .ref mrp, .ref mpg, .ref mbk, .int (nI ac), .ref mke, .ref mik, .int (nI cr), .ref mrw, .ref mrd, .long sd, .ref mtr, .ref mwo, .ref mnx, .int jr])), (mpg, .inl (cI, 36, .inl g)), (mrw, .inl (cI, 6, .inl pw)), (mrd, .inl (cI, 6, .inl pd))] ∧ va_S A sS.heap H locs ∧ lv_has ls 12 [(3, .int (nI i)), (2, .int (zop f i)), (0, .ref M), (1, .int (nI c))]) (n) (lo := 0) (by omega) ⟨hP, hD, hS, hl⟩ (fun i hi_i ih_4 H locs ls hI => ?_)
    obtain ⟨hP, hD, hS, hl⟩ := hI
    have hP : va_P D vwCl [(M, .inr (9, [.int (nI 0), .ref mtx, .int (nI len), .int (nI pl), .int rt, .int fr, .int pr, .ref mod_, .int (nI n), .ref mne, .ref mro, .int (nI m), .int rrt, .int rfr, .int rpr, .ref mrod, .int (nI rn9), .ref mrne, .ref mrro, .int (nI rm9), .ref mrp, .ref mpg, .ref mbk, .int (nI ac), .ref mke, .ref mik, .int (nI cr), .ref mrw, .ref mrd, .long sd, .ref mtr, .ref mwo, .ref mnx, .int jr])), (mpg, .inl (cI, 36, .inl g)), (mrw, .inl (cI, 6, .inl pw)), (mrd, .inl (cI, 6, .inl pd))] H := hP
    have hD : va_D A [(M, .inr (9, [.int (nI 0), .ref mtx, .int (nI len), .int (nI pl), .int rt, .int fr, .int pr, .ref mod_, .int (nI n), .ref mne, .ref mro, .int (nI m), .int rrt, .int rfr, .int rpr, .ref mrod, .int (nI rn9), .ref mrne, .ref mrro, .int (nI rm9), .ref mrp, .ref mpg, .ref mbk, .int (nI ac), .ref mke, .ref mik, .int (nI cr), .ref mrw, .ref mrd, .long sd, .ref mtr, .ref mwo, .ref mnx, .int jr])), (mpg, .inl (cI, 36, .inl g)), (mrw, .inl (cI, 6, .inl pw)), (mrd, .inl (cI, 6, .inl pd))] := hD
    have hl : lv_has ls 12 [(3, .int (nI i)), (2, .int (zop f i)), (0, .ref M), (1, .int (nI c))] := hl
    refine lv_iload_n hx hb dX9_tales_24 rfl (lv_at hl 0 rfl) ?_
    refine lv_aload_n hx hb dX9_tales_25 rfl (lv_at hl 2 rfl) ?_
    refine z_get (ci := 9) (v := .int (nI n)) Z zin9 hP 0 rfl rfl 8 (by decide) zm685 rfl rfl dX9_tales_26 ?_
    refine lv_icmp_ge (tgt := 81) hx hb dX9_tales_29 (by decide) (fun c_6 => ?_) (fun c_6 => ?_)
    · have c_6 := zle (i := n) (j := i) (by omega) (by omega) c_6
      have hE_ : n = i := by omega
      subst hE_
      have hE : (zop f n : Int32) = (nI (zopN f n)) := zop_nat f n hn
      have hl : lv_has ls 12 [(3, .int (nI n)), (2, .int (nI (zopN f n))), (0, .ref M), (1, .int (nI c))] := Eq.subst (motive := fun zz_ => lv_has ls 12 [(3, .int (nI n)), (2, .int zz_), (0, .ref M), (1, .int (nI c))]) hE hl
      refine lv_iconst (v := nI 0) hx hb dX9_tales_81 (by decide) ?_
      refine lv_istore_n (lv' := [(3, .int (nI 0)), (2, .int (nI (zopN f n))), (0, .ref M), (1, .int (nI c))]) hx hb dX9_tales_82 rfl hl (by decide) rfl (fun ls hl => ?_)
      refine lv_iconst (v := nI 0) hx hb dX9_tales_83 (by decide) ?_
      refine lv_istore (lv' := [(4, .int (nI 0)), (3, .int (nI 0)), (2, .int (nI (zopN f n))), (0, .ref M), (1, .int (nI c))]) hx hb dX9_tales_84 hl (by decide) rfl (fun ls hl => ?_)
      refine lv_iload_n hx hb dX9_tales_86 rfl (lv_at hl 2 rfl) ?_
      refine lv_istore (lv' := [(5, .int (nI (zopN f n))), (4, .int (nI 0)), (3, .int (nI 0)), (2, .int (nI (zopN f n))), (0, .ref M), (1, .int (nI c))]) hx hb dX9_tales_87 hl (by decide) rfl (fun ls hl => ?_)
      refine lv_iconst (v := nI 0) hx hb dX9_tales_89 (by decide) ?_
      refine lv_istore (lv' := [(6, .int (nI 0)), (5, .int (nI (zopN f n))), (4, .int (nI 0)), (3, .int (nI 0)), (2, .int (nI (zopN f n))), (0, .ref M), (1, .int (nI c))]) hx hb dX9_tales_90 hl (by decide) rfl (fun ls hl => ?_)
      have hl : lv_has ls 12 [(6, .int (nI 0)), (5, .int (nI (zopN f n))), (4, .int (nI 0)), (3, .int (nI 0)), (2, .int (nI (zopN f n))), (0, .ref M), (1, .int (nI c))] := lv_sub hl [0, 1, 2, 3, 4, 5, 6] rfl
      have e_8 : nI (zopN f n) = (ztq pw pd f rt fr n cr (zopN f n) 0).2.2 := by rfl
      have hl : lv_has ls 12 [(6, .int (nI 0)), (5, .int ((ztq pw pd f rt fr n cr (zopN f n) 0).2.2)), (4, .int (nI 0)), (3, .int (nI 0)), (2, .int (nI (zopN f n))), (0, .ref M), (1, .int (nI c))] := Eq.subst (motive := fun zz_ => lv_has ls 12 [(6, .int (nI 0)), (5, .int zz_), (4, .int (nI 0)), (3, .int (nI 0)), (2, .int (nI (zopN f n))), (0, .ref M), (1, .int (nI c))]) e_8 hl
      have e_9 : nI 0 = (ztq pw pd f rt fr n cr (zopN f n) 0).2.1 := by rfl
      have hl : lv_has ls 12 [(6, .int (nI 0)), (5, .int ((ztq pw pd f rt fr n cr (zopN f n) 0).2.2)), (4, .int ((ztq pw pd f rt fr n cr (zopN f n) 0).2.1)), (3, .int (nI 0)), (2, .int (nI (zopN f n))), (0, .ref M), (1, .int (nI c))] := Eq.subst (motive := fun zz_ => lv_has ls 12 [(6, .int (nI 0)), (5, .int ((ztq pw pd f rt fr n cr (zopN f n) 0).2.2)), (4, .int zz_), (3, .int (nI 0)), (2, .int (nI (zopN f n))), (0, .ref M), (1, .int (nI c))]) e_9 hl
      have e_10 : nI 0 = (ztq pw pd f rt fr n cr (zopN f n) 0).1 := by rfl
      have hl : lv_has ls 12 [(6, .int (nI 0)), (5, .int ((ztq pw pd f rt fr n cr (zopN f n) 0).2.2)), (4, .int ((ztq pw pd f rt fr n cr (zopN f n) 0).2.1)), (3, .int ((ztq pw pd f rt fr n cr (zopN f n) 0).1)), (2, .int (nI (zopN f n))), (0, .ref M), (1, .int (nI c))] := Eq.subst (motive := fun zz_ => lv_has ls 12 [(6, .int (nI 0)), (5, .int ((ztq pw pd f rt fr n cr (zopN f n) 0).2.2)), (4, .int ((ztq pw pd f rt fr n cr (zopN f n) 0).2.1)), (3, .int zz_), (2, .int (nI (zopN f n))), (0, .ref M), (1, .int (nI c))]) e_10 hl
      refine z_loop (fun w H locs ls => va_P D vwCl [(M, .inr (9, [.int (nI 0), .ref mtx, .int (nI len), .int (nI pl), .int rt, .int fr, .int pr, .ref mod_, .int (nI n), .ref mne, .ref mro, .int (nI m), .int rrt, .int rfr, .int rpr, .ref mrod, .int (nI rn9), .ref mrne, .ref mrro, .int (nI rm9), .ref mrp, .ref mpg, .ref mbk, .int (nI ac), .ref mke, .ref mik, .int (nI cr), .ref mrw, .ref mrd, .long sd, .ref mtr, .ref mwo, .ref mnx, .int jr])), (mpg, .inl (cI, 36, .inl g)), (mrw, .inl (cI, 6, .inl pw)), (mrd, .inl (cI, 6, .inl pd))] H ∧ va_D A [(M, .inr (9, [.int (nI 0), .ref mtx, .int (nI len), .int (nI pl), .int rt, .int fr, .int pr, .ref mod_, .int (nI n), .ref mne, .ref mro, .int (nI m), .int rrt, .int rfr, .int rpr, .ref mrod, .int (nI rn9), .ref mrne, .ref mrro, .int (nI rm9), .ref mrp, .ref mpg, .ref mbk, .int (nI ac), .ref mke, .ref mik, .int (nI cr), .ref mrw, .ref mrd, .long sd, .ref mtr, .ref mwo, .ref mnx, .int jr])), (mpg, .inl (cI, 36, .inl g)), (mrw, .inl (cI, 6, .inl pw)), (mrd, .inl (cI, 6, .inl pd))] ∧ va_S A sS.heap H locs ∧ lv_has ls 12 [(6, .int (nI w)), (5, .int ((ztq pw pd f rt fr n cr (zopN f n) w).2.2)), (4, .int ((ztq pw pd f rt fr n cr (zopN f n) w).2.1)), (3, .int ((ztq pw pd f rt fr n cr (zopN f n) w).1)), (2, .int (nI (zopN f n))), (0, .ref M), (1, .int (nI c))]) (4 * 2 ^ n) (lo := 0) (by omega) ⟨hP, hD, hS, hl⟩ (fun w hi_w ih_7 H locs ls hI => ?_)
      obtain ⟨hP, hD, hS, hl⟩ := hI
      have hP : va_P D vwCl [(M, .inr (9, [.int (nI 0), .ref mtx, .int (nI len), .int (nI pl), .int rt, .int fr, .int pr, .ref mod_, .int (nI n), .ref mne, .ref mro, .int (nI m), .int rrt, .int rfr, .int rpr, .ref mrod, .int (nI rn9), .ref mrne, .ref mrro, .int (nI rm9), .ref mrp, .ref mpg, .ref mbk, .int (nI ac), .ref mke, .ref mik, .int (nI cr), .ref mrw, .ref mrd, .long sd, .ref mtr, .ref mwo, .ref mnx, .int jr])), (mpg, .inl (cI, 36, .inl g)), (mrw, .inl (cI, 6, .inl pw)), (mrd, .inl (cI, 6, .inl pd))] H := hP
      have hD : va_D A [(M, .inr (9, [.int (nI 0), .ref mtx, .int (nI len), .int (nI pl), .int rt, .int fr, .int pr, .ref mod_, .int (nI n), .ref mne, .ref mro, .int (nI m), .int rrt, .int rfr, .int rpr, .ref mrod, .int (nI rn9), .ref mrne, .ref mrro, .int (nI rm9), .ref mrp, .ref mpg, .ref mbk, .int (nI ac), .ref mke, .ref mik, .int (nI cr), .ref mrw, .ref mrd, .long sd, .ref mtr, .ref mwo, .ref mnx, .int jr])), (mpg, .inl (cI, 36, .inl g)), (mrw, .inl (cI, 6, .inl pw)), (mrd, .inl (cI, 6, .inl pd))] := hD
      have hl : lv_has ls 12 [(6, .int (nI w)), (5, .int ((ztq pw pd f rt fr n cr (zopN f n) w).2.2)), (4, .int ((ztq pw pd f rt fr n cr (zopN f n) w).2.1)), (3, .int ((ztq pw pd f rt fr n cr (zopN f n) w).1)), (2, .int (nI (zopN f n))), (0, .ref M), (1, .int (nI c))] := hl
      refine lv_iload hx hb dX9_tales_92 (lv_at hl 0 rfl) ?_
      refine lv_iconst (v := nI 4) hx hb dX9_tales_94 (by decide) ?_
      refine lv_aload_n hx hb dX9_tales_95 rfl (lv_at hl 5 rfl) ?_
      refine z_get (ci := 9) (v := .int (nI n)) Z zin9 hP 0 rfl rfl 8 (by decide) zm685 rfl rfl dX9_tales_96 ?_
      refine lv_ishl hx hb dX9_tales_99 ?_
      refine z_top (y := (4 : Int32) <<< ((nI n) &&& 31)) rfl ?_
      refine z_top (y := nI (4 * 2 ^ n)) (zpow4 n hn) ?_
      refine lv_icmp_ge (tgt := 255) hx hb dX9_tales_100 (by decide) (fun c_11 => ?_) (fun c_11 => ?_)
      · have c_11 := zle (i := 4 * 2 ^ n) (j := w) (by omega) (by omega) c_11
        have hw9 : w = 4 * 2 ^ n := by omega
        have hend := ztq_end (c := cr) (f := f) (pw := pw) (pd := pd) (rt := rt) (fr := fr) how hn hw9
        have hE : ((ztq pw pd f rt fr n cr (zopN f n) w).1 : Int32) = ((ztal pw pd f rt fr n cr (zopN f n)).1) := by rw [hend]
        have hl : lv_has ls 12 [(6, .int (nI w)), (5, .int ((ztq pw pd f rt fr n cr (zopN f n) w).2.2)), (4, .int ((ztq pw pd f rt fr n cr (zopN f n) w).2.1)), (3, .int ((ztal pw pd f rt fr n cr (zopN f n)).1)), (2, .int (nI (zopN f n))), (0, .ref M), (1, .int (nI c))] := Eq.subst (motive := fun zz_ => lv_has ls 12 [(6, .int (nI w)), (5, .int ((ztq pw pd f rt fr n cr (zopN f n) w).2.2)), (4, .int ((ztq pw pd f rt fr n cr (zopN f n) w).2.1)), (3, .int zz_), (2, .int (nI (zopN f n))), (0, .ref M), (1, .int (nI c))]) hE hl
        have hE : ((ztq pw pd f rt fr n cr (zopN f n) w).2.1 : Int32) = ((ztal pw pd f rt fr n cr (zopN f n)).2.1) := by rw [hend]
        have hl : lv_has ls 12 [(6, .int (nI w)), (5, .int ((ztq pw pd f rt fr n cr (zopN f n) w).2.2)), (4, .int ((ztal pw pd f rt fr n cr (zopN f n)).2.1)), (3, .int ((ztal pw pd f rt fr n cr (zopN f n)).1)), (2, .int (nI (zopN f n))), (0, .ref M), (1, .int (nI c))] := Eq.subst (motive := fun zz_ => lv_has ls 12 [(6, .int (nI w)), (5, .int ((ztq pw pd f rt fr n cr (zopN f n) w).2.2)), (4, .int zz_), (3, .int ((ztal pw pd f rt fr n cr (zopN f n)).1)), (2, .int (nI (zopN f n))), (0, .ref M), (1, .int (nI c))]) hE hl
        have hE : ((ztq pw pd f rt fr n cr (zopN f n) w).2.2 : Int32) = ((ztal pw pd f rt fr n cr (zopN f n)).2.2) := by rw [hend]
        have hl : lv_has ls 12 [(6, .int (nI w)), (5, .int ((ztal pw pd f rt fr n cr (zopN f n)).2.2)), (4, .int ((ztal pw pd f rt fr n cr (zopN f n)).2.1)), (3, .int ((ztal pw pd f rt fr n cr (zopN f n)).1)), (2, .int (nI (zopN f n))), (0, .ref M), (1, .int (nI c))] := Eq.subst (motive := fun zz_ => lv_has ls 12 [(6, .int (nI w)), (5, .int zz_), (4, .int ((ztal pw pd f rt fr n cr (zopN f n)).2.1)), (3, .int ((ztal pw pd f rt fr n cr (zopN f n)).1)), (2, .int (nI (zopN f n))), (0, .ref M), (1, .int (nI c))]) hE hl
        refine lv_iload_n hx hb dX9_tales_255 rfl (lv_at hl 6 rfl) ?_
        refine lv_if_ne (tgt := 263) hx hb dX9_tales_256 (by decide) (fun c_12 => ?_) (fun c_12 => ?_)
        · have c_12 := zne (i := c) (j := 0) c_12
          refine lv_iload_n hx hb dX9_tales_263 rfl (lv_at hl 6 rfl) ?_
          refine lv_iconst (v := nI 1) hx hb dX9_tales_264 (by decide) ?_
          refine lv_icmp_ne (tgt := 273) hx hb dX9_tales_265 (by decide) (fun c_13 => ?_) (fun c_13 => ?_)
          · have c_13 := zne (i := c) (j := 1) c_13
            refine lv_iload_n hx hb dX9_tales_273 rfl (lv_at hl 3 rfl) ?_
            refine lv_if_ne (tgt := 282) hx hb dX9_tales_274 (by decide) (fun c_14 => ?_) (fun c_14 => ?_)
            · have c_14 : ¬ (((ztal pw pd f rt fr n cr (zopN f n)).1) = 0) := c_14
              refine lv_iload hx hb dX9_tales_282 (lv_at hl 1 rfl) ?_
              exact z_iret Z () (by first | rw [zRa_n hrgn] | (rw [zRa_y hc0 hc (by decide)]; first | (rw [zb3_0 (by assumption)]; done) | (rw [zb3_1 (by assumption)]; done) | (rw [zb3_2 (by assumption) (by assumption) hc, if_pos (by assumption)]; done) | (rw [zb3_2 (by assumption) (by assumption) hc, if_neg (by assumption)]; done)) | rfl) hP hS dX9_tales_284
            · have c_14 : ((ztal pw pd f rt fr n cr (zopN f n)).1) = 0 := c_14
              refine lv_bipush (v := -9) hx hb dX9_tales_277 (by decide) ?_
              refine lv_goto (tgt := 284) hx hb dX9_tales_279 (by decide) ?_
              exact z_iret Z () (by first | rw [zRa_n hrgn] | (rw [zRa_y hc0 hc (by decide)]; first | (rw [zb3_0 (by assumption)]; done) | (rw [zb3_1 (by assumption)]; done) | (rw [zb3_2 (by assumption) (by assumption) hc, if_pos (by assumption)]; done) | (rw [zb3_2 (by assumption) (by assumption) hc, if_neg (by assumption)]; done)) | rfl) hP hS dX9_tales_284
          · have c_13 := zeq (i := c) (j := 1) (by omega) (by decide) c_13
            refine lv_iload hx hb dX9_tales_268 (lv_at hl 2 rfl) ?_
            refine lv_goto (tgt := 284) hx hb dX9_tales_270 (by decide) ?_
            exact z_iret Z () (by first | rw [zRa_n hrgn] | (rw [zRa_y hc0 hc (by decide)]; first | (rw [zb3_0 (by assumption)]; done) | (rw [zb3_1 (by assumption)]; done) | (rw [zb3_2 (by assumption) (by assumption) hc, if_pos (by assumption)]; done) | (rw [zb3_2 (by assumption) (by assumption) hc, if_neg (by assumption)]; done)) | rfl) hP hS dX9_tales_284
        · have c_12 := zeq (i := c) (j := 0) (by omega) (by decide) c_12
          refine lv_iload_n hx hb dX9_tales_259 rfl (lv_at hl 3 rfl) ?_
          refine lv_goto (tgt := 284) hx hb dX9_tales_260 (by decide) ?_
          exact z_iret Z () (by first | rw [zRa_n hrgn] | (rw [zRa_y hc0 hc (by decide)]; first | (rw [zb3_0 (by assumption)]; done) | (rw [zb3_1 (by assumption)]; done) | (rw [zb3_2 (by assumption) (by assumption) hc, if_pos (by assumption)]; done) | (rw [zb3_2 (by assumption) (by assumption) hc, if_neg (by assumption)]; done)) | rfl) hP hS dX9_tales_284
      · have c_11 := znle (i := 4 * 2 ^ n) (j := w) (by omega) (by omega) c_11
        obtain ⟨k, hke⟩ : ∃ k, w / 2 ^ n = k := ⟨_, rfl⟩
        obtain ⟨s, hse⟩ : ∃ s, w % 2 ^ n = s := ⟨_, rfl⟩
        have hks : k < 4 ∧ s < 2 ^ n := ⟨by rw [← hke]; exact (Nat.div_lt_iff_lt_mul h2p).mpr (by omega), by rw [← hse]; exact Nat.mod_lt _ h2p⟩
        refine lv_iload hx hb dX9_tales_103 (lv_at hl 0 rfl) ?_
        refine lv_aload_n hx hb dX9_tales_105 rfl (lv_at hl 5 rfl) ?_
        refine z_get (ci := 9) (v := .int (nI n)) Z zin9 hP 0 rfl rfl 8 (by decide) zm685 rfl rfl dX9_tales_106 ?_
        refine lv_ishr hx hb dX9_tales_109 ?_
        refine z_top (y := (nI w) >>> ((nI n) &&& 31)) rfl ?_
        refine z_top (y := nI k) (by rw [← hke]; exact (zand1w n (by omega) w (by omega)).1) ?_
        refine lv_istore (lv' := [(7, .int (nI k)), (6, .int (nI w)), (5, .int ((ztq pw pd f rt fr n cr (zopN f n) w).2.2)), (4, .int ((ztq pw pd f rt fr n cr (zopN f n) w).2.1)), (3, .int ((ztq pw pd f rt fr n cr (zopN f n) w).1)), (2, .int (nI (zopN f n))), (0, .ref M), (1, .int (nI c))]) hx hb dX9_tales_110 hl (by decide) rfl (fun ls hl => ?_)
        refine lv_iload hx hb dX9_tales_112 (lv_at hl 1 rfl) ?_
        refine lv_iconst (v := nI 1) hx hb dX9_tales_114 (by decide) ?_
        refine lv_aload_n hx hb dX9_tales_115 rfl (lv_at hl 6 rfl) ?_
        refine z_get (ci := 9) (v := .int (nI n)) Z zin9 hP 0 rfl rfl 8 (by decide) zm685 rfl rfl dX9_tales_116 ?_
        refine lv_ishl hx hb dX9_tales_119 ?_
        refine z_top (y := (1 : Int32) <<< ((nI n) &&& 31)) rfl ?_
        refine z_top (y := nI (2 ^ n)) (zpow2 n hn) ?_
        refine lv_iconst (v := nI 1) hx hb dX9_tales_120 (by decide) ?_
        refine lv_isub hx hb dX9_tales_121 ?_
        refine z_top (y := nI ((2 ^ n) - 1)) (z_sub' (by omega)) ?_
        refine lv_iand hx hb dX9_tales_122 ?_
        refine z_top (y := (nI w) &&& (nI ((2 ^ n) - 1))) rfl ?_
        refine z_top (y := nI s) (by rw [← hse]; exact (zand1w n (by omega) w (by omega)).2) ?_
        refine lv_istore (lv' := [(8, .int (nI s)), (7, .int (nI k)), (6, .int (nI w)), (5, .int ((ztq pw pd f rt fr n cr (zopN f n) w).2.2)), (4, .int ((ztq pw pd f rt fr n cr (zopN f n) w).2.1)), (3, .int ((ztq pw pd f rt fr n cr (zopN f n) w).1)), (2, .int (nI (zopN f n))), (0, .ref M), (1, .int (nI c))]) hx hb dX9_tales_123 hl (by decide) rfl (fun ls hl => ?_)
        refine lv_iload hx hb dX9_tales_125 (lv_at hl 0 rfl) ?_
        refine lv_iload_n hx hb dX9_tales_127 rfl (lv_at hl 6 rfl) ?_
        refine lv_iconst (v := -1) hx hb dX9_tales_128 (by decide) ?_
        refine lv_ixor hx hb dX9_tales_129 ?_
        refine z_top (y := (nI (zopN f n)) ^^^ (-1)) rfl ?_
        refine lv_iand hx hb dX9_tales_130 ?_
        refine z_top (y := (nI s) &&& ((nI (zopN f n)) ^^^ (-1))) rfl ?_
        refine lv_if_ne (tgt := 138) hx hb dX9_tales_131 (by decide) (fun c_15 => ?_) (fun c_15 => ?_)
        · have c_15 : ¬ (((nI s) &&& ((nI (zopN f n)) ^^^ (-1))) = 0) := c_15
          have hsb := c_15
          refine lv_iconst (v := nI 0) hx hb dX9_tales_138 (by decide) ?_
          refine lv_istore (lv' := [(9, .int (nI 0)), (8, .int (nI s)), (7, .int (nI k)), (6, .int (nI w)), (5, .int ((ztq pw pd f rt fr n cr (zopN f n) w).2.2)), (4, .int ((ztq pw pd f rt fr n cr (zopN f n) w).2.1)), (3, .int ((ztq pw pd f rt fr n cr (zopN f n) w).1)), (2, .int (nI (zopN f n))), (0, .ref M), (1, .int (nI c))]) hx hb dX9_tales_139 hl (by decide) rfl (fun ls hl => ?_)
          refine lv_iconst (v := nI 0) hx hb dX9_tales_141 (by decide) ?_
          refine lv_istore (lv' := [(10, .int (nI 0)), (9, .int (nI 0)), (8, .int (nI s)), (7, .int (nI k)), (6, .int (nI w)), (5, .int ((ztq pw pd f rt fr n cr (zopN f n) w).2.2)), (4, .int ((ztq pw pd f rt fr n cr (zopN f n) w).2.1)), (3, .int ((ztq pw pd f rt fr n cr (zopN f n) w).1)), (2, .int (nI (zopN f n))), (0, .ref M), (1, .int (nI c))]) hx hb dX9_tales_142 hl (by decide) rfl (fun ls hl => ?_)
          have hl : lv_has ls 12 [(10, .int (nI 0)), (9, .int (nI 0)), (8, .int (nI s)), (7, .int (nI k)), (6, .int (nI w)), (5, .int ((ztq pw pd f rt fr n cr (zopN f n) w).2.2)), (4, .int ((ztq pw pd f rt fr n cr (zopN f n) w).2.1)), (3, .int ((ztq pw pd f rt fr n cr (zopN f n) w).1)), (2, .int (nI (zopN f n))), (0, .ref M), (1, .int (nI c))] := lv_sub hl [0, 1, 2, 3, 4, 5, 6, 7, 8, 9, 10] rfl
          have e_17 : nI 0 = (if zokc pw pd f rt fr n 0 (zopN f n) k s = true then 1 else 0) := by first | (rw [if_pos (zokc_0.trans (decide_eq_true hsb))]; rfl) | (rw [if_neg (fun z => hsb (of_decide_eq_true (zokc_0.symm.trans z)))]; rfl)
          have hl : lv_has ls 12 [(10, .int (nI 0)), (9, .int (if zokc pw pd f rt fr n 0 (zopN f n) k s = true then 1 else 0)), (8, .int (nI s)), (7, .int (nI k)), (6, .int (nI w)), (5, .int ((ztq pw pd f rt fr n cr (zopN f n) w).2.2)), (4, .int ((ztq pw pd f rt fr n cr (zopN f n) w).2.1)), (3, .int ((ztq pw pd f rt fr n cr (zopN f n) w).1)), (2, .int (nI (zopN f n))), (0, .ref M), (1, .int (nI c))] := Eq.subst (motive := fun zz_ => lv_has ls 12 [(10, .int (nI 0)), (9, .int zz_), (8, .int (nI s)), (7, .int (nI k)), (6, .int (nI w)), (5, .int ((ztq pw pd f rt fr n cr (zopN f n) w).2.2)), (4, .int ((ztq pw pd f rt fr n cr (zopN f n) w).2.1)), (3, .int ((ztq pw pd f rt fr n cr (zopN f n) w).1)), (2, .int (nI (zopN f n))), (0, .ref M), (1, .int (nI c))]) e_17 hl
          refine z_loop (fun i H locs ls => va_P D vwCl [(M, .inr (9, [.int (nI 0), .ref mtx, .int (nI len), .int (nI pl), .int rt, .int fr, .int pr, .ref mod_, .int (nI n), .ref mne, .ref mro, .int (nI m), .int rrt, .int rfr, .int rpr, .ref mrod, .int (nI rn9), .ref mrne, .ref mrro, .int (nI rm9), .ref mrp, .ref mpg, .ref mbk, .int (nI ac), .ref mke, .ref mik, .int (nI cr), .ref mrw, .ref mrd, .long sd, .ref mtr, .ref mwo, .ref mnx, .int jr])), (mpg, .inl (cI, 36, .inl g)), (mrw, .inl (cI, 6, .inl pw)), (mrd, .inl (cI, 6, .inl pd))] H ∧ va_D A [(M, .inr (9, [.int (nI 0), .ref mtx, .int (nI len), .int (nI pl), .int rt, .int fr, .int pr, .ref mod_, .int (nI n), .ref mne, .ref mro, .int (nI m), .int rrt, .int rfr, .int rpr, .ref mrod, .int (nI rn9), .ref mrne, .ref mrro, .int (nI rm9), .ref mrp, .ref mpg, .ref mbk, .int (nI ac), .ref mke, .ref mik, .int (nI cr), .ref mrw, .ref mrd, .long sd, .ref mtr, .ref mwo, .ref mnx, .int jr])), (mpg, .inl (cI, 36, .inl g)), (mrw, .inl (cI, 6, .inl pw)), (mrd, .inl (cI, 6, .inl pd))] ∧ va_S A sS.heap H locs ∧ lv_has ls 12 [(10, .int (nI i)), (9, .int (if zokc pw pd f rt fr n i (zopN f n) k s = true then 1 else 0)), (8, .int (nI s)), (7, .int (nI k)), (6, .int (nI w)), (5, .int ((ztq pw pd f rt fr n cr (zopN f n) w).2.2)), (4, .int ((ztq pw pd f rt fr n cr (zopN f n) w).2.1)), (3, .int ((ztq pw pd f rt fr n cr (zopN f n) w).1)), (2, .int (nI (zopN f n))), (0, .ref M), (1, .int (nI c))]) (cr) (lo := 0) (by omega) ⟨hP, hD, hS, hl⟩ (fun i hi_i ih_16 H locs ls hI => ?_)
          obtain ⟨hP, hD, hS, hl⟩ := hI
          have hP : va_P D vwCl [(M, .inr (9, [.int (nI 0), .ref mtx, .int (nI len), .int (nI pl), .int rt, .int fr, .int pr, .ref mod_, .int (nI n), .ref mne, .ref mro, .int (nI m), .int rrt, .int rfr, .int rpr, .ref mrod, .int (nI rn9), .ref mrne, .ref mrro, .int (nI rm9), .ref mrp, .ref mpg, .ref mbk, .int (nI ac), .ref mke, .ref mik, .int (nI cr), .ref mrw, .ref mrd, .long sd, .ref mtr, .ref mwo, .ref mnx, .int jr])), (mpg, .inl (cI, 36, .inl g)), (mrw, .inl (cI, 6, .inl pw)), (mrd, .inl (cI, 6, .inl pd))] H := hP
          have hD : va_D A [(M, .inr (9, [.int (nI 0), .ref mtx, .int (nI len), .int (nI pl), .int rt, .int fr, .int pr, .ref mod_, .int (nI n), .ref mne, .ref mro, .int (nI m), .int rrt, .int rfr, .int rpr, .ref mrod, .int (nI rn9), .ref mrne, .ref mrro, .int (nI rm9), .ref mrp, .ref mpg, .ref mbk, .int (nI ac), .ref mke, .ref mik, .int (nI cr), .ref mrw, .ref mrd, .long sd, .ref mtr, .ref mwo, .ref mnx, .int jr])), (mpg, .inl (cI, 36, .inl g)), (mrw, .inl (cI, 6, .inl pw)), (mrd, .inl (cI, 6, .inl pd))] := hD
          have hl : lv_has ls 12 [(10, .int (nI i)), (9, .int (if zokc pw pd f rt fr n i (zopN f n) k s = true then 1 else 0)), (8, .int (nI s)), (7, .int (nI k)), (6, .int (nI w)), (5, .int ((ztq pw pd f rt fr n cr (zopN f n) w).2.2)), (4, .int ((ztq pw pd f rt fr n cr (zopN f n) w).2.1)), (3, .int ((ztq pw pd f rt fr n cr (zopN f n) w).1)), (2, .int (nI (zopN f n))), (0, .ref M), (1, .int (nI c))] := hl
          refine lv_iload hx hb dX9_tales_144 (lv_at hl 0 rfl) ?_
          refine lv_aload_n hx hb dX9_tales_146 rfl (lv_at hl 9 rfl) ?_
          refine z_get (ci := 9) (v := .int (nI cr)) Z zin9 hP 0 rfl rfl 26 (by decide) zm703 rfl rfl dX9_tales_147 ?_
          refine lv_icmp_ge (tgt := 225) hx hb dX9_tales_150 (by decide) (fun c_18 => ?_) (fun c_18 => ?_)
          · have c_18 := zle (i := cr) (j := i) (by omega) (by omega) c_18
            have hE_ : cr = i := by omega
            subst hE_
            refine lv_iload hx hb dX9_tales_225 (lv_at hl 1 rfl) ?_
            refine lv_if_eq (tgt := 249) hx hb dX9_tales_227 (by decide) (fun c_19 => ?_) (fun c_19 => ?_)
            · have c_19 := zb0 c_19
              have hyy := c_19
              refine lv_iinc (v := nI (w + 1)) (lv' := [(6, .int (nI (w + 1))), (10, .int (nI cr)), (9, .int (if zokc pw pd f rt fr n cr (zopN f n) k s = true then 1 else 0)), (8, .int (nI s)), (7, .int (nI k)), (5, .int ((ztq pw pd f rt fr n cr (zopN f n) w).2.2)), (4, .int ((ztq pw pd f rt fr n cr (zopN f n) w).2.1)), (3, .int ((ztq pw pd f rt fr n cr (zopN f n) w).1)), (2, .int (nI (zopN f n))), (0, .ref M), (1, .int (nI c))]) hx hb dX9_tales_249 hl (k := 4) rfl (z_inc _ 1) (by decide) rfl (fun ls hl => ?_)
              refine lv_goto (tgt := 92) hx hb dX9_tales_252 (by decide) ?_
              have hl : lv_has ls 12 [(6, .int (nI (w + 1))), (5, .int ((ztq pw pd f rt fr n cr (zopN f n) w).2.2)), (4, .int ((ztq pw pd f rt fr n cr (zopN f n) w).2.1)), (3, .int ((ztq pw pd f rt fr n cr (zopN f n) w).1)), (2, .int (nI (zopN f n))), (0, .ref M), (1, .int (nI c))] := lv_sub hl [0, 5, 6, 7, 8, 9, 10] rfl
              have e_20 : (ztq pw pd f rt fr n cr (zopN f n) w).2.2 = (ztq pw pd f rt fr n cr (zopN f n) (w + 1)).2.2 := by first | (rw [← ztq_n hke hse hyy]; done) | (rw [← ztq_y hke hse hyy]; done)
              have hl : lv_has ls 12 [(6, .int (nI (w + 1))), (5, .int ((ztq pw pd f rt fr n cr (zopN f n) (w + 1)).2.2)), (4, .int ((ztq pw pd f rt fr n cr (zopN f n) w).2.1)), (3, .int ((ztq pw pd f rt fr n cr (zopN f n) w).1)), (2, .int (nI (zopN f n))), (0, .ref M), (1, .int (nI c))] := Eq.subst (motive := fun zz_ => lv_has ls 12 [(6, .int (nI (w + 1))), (5, .int zz_), (4, .int ((ztq pw pd f rt fr n cr (zopN f n) w).2.1)), (3, .int ((ztq pw pd f rt fr n cr (zopN f n) w).1)), (2, .int (nI (zopN f n))), (0, .ref M), (1, .int (nI c))]) e_20 hl
              have e_21 : (ztq pw pd f rt fr n cr (zopN f n) w).2.1 = (ztq pw pd f rt fr n cr (zopN f n) (w + 1)).2.1 := by first | (rw [← ztq_n hke hse hyy]; done) | (rw [← ztq_y hke hse hyy]; done)
              have hl : lv_has ls 12 [(6, .int (nI (w + 1))), (5, .int ((ztq pw pd f rt fr n cr (zopN f n) (w + 1)).2.2)), (4, .int ((ztq pw pd f rt fr n cr (zopN f n) (w + 1)).2.1)), (3, .int ((ztq pw pd f rt fr n cr (zopN f n) w).1)), (2, .int (nI (zopN f n))), (0, .ref M), (1, .int (nI c))] := Eq.subst (motive := fun zz_ => lv_has ls 12 [(6, .int (nI (w + 1))), (5, .int ((ztq pw pd f rt fr n cr (zopN f n) (w + 1)).2.2)), (4, .int zz_), (3, .int ((ztq pw pd f rt fr n cr (zopN f n) w).1)), (2, .int (nI (zopN f n))), (0, .ref M), (1, .int (nI c))]) e_21 hl
              have e_22 : (ztq pw pd f rt fr n cr (zopN f n) w).1 = (ztq pw pd f rt fr n cr (zopN f n) (w + 1)).1 := by first | (rw [← ztq_n hke hse hyy]; done) | (rw [← ztq_y hke hse hyy]; done)
              have hl : lv_has ls 12 [(6, .int (nI (w + 1))), (5, .int ((ztq pw pd f rt fr n cr (zopN f n) (w + 1)).2.2)), (4, .int ((ztq pw pd f rt fr n cr (zopN f n) (w + 1)).2.1)), (3, .int ((ztq pw pd f rt fr n cr (zopN f n) (w + 1)).1)), (2, .int (nI (zopN f n))), (0, .ref M), (1, .int (nI c))] := Eq.subst (motive := fun zz_ => lv_has ls 12 [(6, .int (nI (w + 1))), (5, .int ((ztq pw pd f rt fr n cr (zopN f n) (w + 1)).2.2)), (4, .int ((ztq pw pd f rt fr n cr (zopN f n) (w + 1)).2.1)), (3, .int zz_), (2, .int (nI (zopN f n))), (0, .ref M), (1, .int (nI c))]) e_22 hl
              exact ih_7 _ _ _ (by omega) ⟨hP, hD, hS, hl⟩
            · have c_19 := zb1 c_19
              have hyy := c_19
              refine lv_iinc (v := ((ztq pw pd f rt fr n cr (zopN f n) w).1) + 1) (lv' := [(3, .int (((ztq pw pd f rt fr n cr (zopN f n) w).1) + 1)), (10, .int (nI cr)), (9, .int (if zokc pw pd f rt fr n cr (zopN f n) k s = true then 1 else 0)), (8, .int (nI s)), (7, .int (nI k)), (6, .int (nI w)), (5, .int ((ztq pw pd f rt fr n cr (zopN f n) w).2.2)), (4, .int ((ztq pw pd f rt fr n cr (zopN f n) w).2.1)), (2, .int (nI (zopN f n))), (0, .ref M), (1, .int (nI c))]) hx hb dX9_tales_230 hl (k := 7) rfl rfl (by decide) rfl (fun ls hl => ?_)
              refine lv_iload hx hb dX9_tales_233 (lv_at hl 7 rfl) ?_
              refine lv_iconst (v := nI 1) hx hb dX9_tales_235 (by decide) ?_
              refine lv_iload hx hb dX9_tales_236 (lv_at hl 4 rfl) ?_
              refine lv_ishl hx hb dX9_tales_238 ?_
              refine z_top (y := (1 : Int32) <<< ((nI k) &&& 31)) rfl ?_
              refine z_top (y := zbit k) (rfl) ?_
              refine lv_ior hx hb dX9_tales_239 ?_
              refine z_top (y := ((ztq pw pd f rt fr n cr (zopN f n) w).2.1) ||| (zbit k)) rfl ?_
              refine lv_istore (lv' := [(4, .int (((ztq pw pd f rt fr n cr (zopN f n) w).2.1) ||| (zbit k))), (3, .int (((ztq pw pd f rt fr n cr (zopN f n) w).1) + 1)), (10, .int (nI cr)), (9, .int (if zokc pw pd f rt fr n cr (zopN f n) k s = true then 1 else 0)), (8, .int (nI s)), (7, .int (nI k)), (6, .int (nI w)), (5, .int ((ztq pw pd f rt fr n cr (zopN f n) w).2.2)), (2, .int (nI (zopN f n))), (0, .ref M), (1, .int (nI c))]) hx hb dX9_tales_240 hl (by decide) rfl (fun ls hl => ?_)
              refine lv_iload hx hb dX9_tales_242 (lv_at hl 7 rfl) ?_
              refine lv_iload hx hb dX9_tales_244 (lv_at hl 4 rfl) ?_
              refine lv_iand hx hb dX9_tales_246 ?_
              refine z_top (y := ((ztq pw pd f rt fr n cr (zopN f n) w).2.2) &&& (nI s)) rfl ?_
              refine lv_istore (lv' := [(5, .int (((ztq pw pd f rt fr n cr (zopN f n) w).2.2) &&& (nI s))), (4, .int (((ztq pw pd f rt fr n cr (zopN f n) w).2.1) ||| (zbit k))), (3, .int (((ztq pw pd f rt fr n cr (zopN f n) w).1) + 1)), (10, .int (nI cr)), (9, .int (if zokc pw pd f rt fr n cr (zopN f n) k s = true then 1 else 0)), (8, .int (nI s)), (7, .int (nI k)), (6, .int (nI w)), (2, .int (nI (zopN f n))), (0, .ref M), (1, .int (nI c))]) hx hb dX9_tales_247 hl (by decide) rfl (fun ls hl => ?_)
              refine lv_iinc (v := nI (w + 1)) (lv' := [(6, .int (nI (w + 1))), (5, .int (((ztq pw pd f rt fr n cr (zopN f n) w).2.2) &&& (nI s))), (4, .int (((ztq pw pd f rt fr n cr (zopN f n) w).2.1) ||| (zbit k))), (3, .int (((ztq pw pd f rt fr n cr (zopN f n) w).1) + 1)), (10, .int (nI cr)), (9, .int (if zokc pw pd f rt fr n cr (zopN f n) k s = true then 1 else 0)), (8, .int (nI s)), (7, .int (nI k)), (2, .int (nI (zopN f n))), (0, .ref M), (1, .int (nI c))]) hx hb dX9_tales_249 hl (k := 7) rfl (z_inc _ 1) (by decide) rfl (fun ls hl => ?_)
              refine lv_goto (tgt := 92) hx hb dX9_tales_252 (by decide) ?_
              have hl : lv_has ls 12 [(6, .int (nI (w + 1))), (5, .int (((ztq pw pd f rt fr n cr (zopN f n) w).2.2) &&& (nI s))), (4, .int (((ztq pw pd f rt fr n cr (zopN f n) w).2.1) ||| (zbit k))), (3, .int (((ztq pw pd f rt fr n cr (zopN f n) w).1) + 1)), (2, .int (nI (zopN f n))), (0, .ref M), (1, .int (nI c))] := lv_sub hl [0, 1, 2, 3, 8, 9, 10] rfl
              have e_23 : ((ztq pw pd f rt fr n cr (zopN f n) w).2.2) &&& (nI s) = (ztq pw pd f rt fr n cr (zopN f n) (w + 1)).2.2 := by first | (rw [← ztq_n hke hse hyy]; done) | (rw [← ztq_y hke hse hyy]; done)
              have hl : lv_has ls 12 [(6, .int (nI (w + 1))), (5, .int ((ztq pw pd f rt fr n cr (zopN f n) (w + 1)).2.2)), (4, .int (((ztq pw pd f rt fr n cr (zopN f n) w).2.1) ||| (zbit k))), (3, .int (((ztq pw pd f rt fr n cr (zopN f n) w).1) + 1)), (2, .int (nI (zopN f n))), (0, .ref M), (1, .int (nI c))] := Eq.subst (motive := fun zz_ => lv_has ls 12 [(6, .int (nI (w + 1))), (5, .int zz_), (4, .int (((ztq pw pd f rt fr n cr (zopN f n) w).2.1) ||| (zbit k))), (3, .int (((ztq pw pd f rt fr n cr (zopN f n) w).1) + 1)), (2, .int (nI (zopN f n))), (0, .ref M), (1, .int (nI c))]) e_23 hl
              have e_24 : ((ztq pw pd f rt fr n cr (zopN f n) w).2.1) ||| (zbit k) = (ztq pw pd f rt fr n cr (zopN f n) (w + 1)).2.1 := by first | (rw [← ztq_n hke hse hyy]; done) | (rw [← ztq_y hke hse hyy]; done)
              have hl : lv_has ls 12 [(6, .int (nI (w + 1))), (5, .int ((ztq pw pd f rt fr n cr (zopN f n) (w + 1)).2.2)), (4, .int ((ztq pw pd f rt fr n cr (zopN f n) (w + 1)).2.1)), (3, .int (((ztq pw pd f rt fr n cr (zopN f n) w).1) + 1)), (2, .int (nI (zopN f n))), (0, .ref M), (1, .int (nI c))] := Eq.subst (motive := fun zz_ => lv_has ls 12 [(6, .int (nI (w + 1))), (5, .int ((ztq pw pd f rt fr n cr (zopN f n) (w + 1)).2.2)), (4, .int zz_), (3, .int (((ztq pw pd f rt fr n cr (zopN f n) w).1) + 1)), (2, .int (nI (zopN f n))), (0, .ref M), (1, .int (nI c))]) e_24 hl
              have e_25 : ((ztq pw pd f rt fr n cr (zopN f n) w).1) + 1 = (ztq pw pd f rt fr n cr (zopN f n) (w + 1)).1 := by first | (rw [← ztq_n hke hse hyy]; done) | (rw [← ztq_y hke hse hyy]; done)
              have hl : lv_has ls 12 [(6, .int (nI (w + 1))), (5, .int ((ztq pw pd f rt fr n cr (zopN f n) (w + 1)).2.2)), (4, .int ((ztq pw pd f rt fr n cr (zopN f n) (w + 1)).2.1)), (3, .int ((ztq pw pd f rt fr n cr (zopN f n) (w + 1)).1)), (2, .int (nI (zopN f n))), (0, .ref M), (1, .int (nI c))] := Eq.subst (motive := fun zz_ => lv_has ls 12 [(6, .int (nI (w + 1))), (5, .int ((ztq pw pd f rt fr n cr (zopN f n) (w + 1)).2.2)), (4, .int ((ztq pw pd f rt fr n cr (zopN f n) (w + 1)).2.1)), (3, .int zz_), (2, .int (nI (zopN f n))), (0, .ref M), (1, .int (nI c))]) e_25 hl
              exact ih_7 _ _ _ (by omega) ⟨hP, hD, hS, hl⟩
          · have c_18 := znle (i := cr) (j := i) (by omega) (by omega) c_18
            refine lv_iload hx hb dX9_tales_153 (lv_at hl 1 rfl) ?_
            refine lv_if_eq (tgt := 225) hx hb dX9_tales_155 (by decide) (fun c_26 => ?_) (fun c_26 => ?_)
            · have c_26 := zb0 c_26
              have hnz := zokc_m c_26 (d := cr) (by omega)
              have hE : (if zokc pw pd f rt fr n i (zopN f n) k s = true then 1 else 0 : Int32) = (if zokc pw pd f rt fr n cr (zopN f n) k s = true then 1 else 0) := by rw [if_neg hnz, if_neg c_26]
              have hl : lv_has ls 12 [(10, .int (nI i)), (9, .int (if zokc pw pd f rt fr n cr (zopN f n) k s = true then 1 else 0)), (8, .int (nI s)), (7, .int (nI k)), (6, .int (nI w)), (5, .int ((ztq pw pd f rt fr n cr (zopN f n) w).2.2)), (4, .int ((ztq pw pd f rt fr n cr (zopN f n) w).2.1)), (3, .int ((ztq pw pd f rt fr n cr (zopN f n) w).1)), (2, .int (nI (zopN f n))), (0, .ref M), (1, .int (nI c))] := Eq.subst (motive := fun zz_ => lv_has ls 12 [(10, .int (nI i)), (9, .int zz_), (8, .int (nI s)), (7, .int (nI k)), (6, .int (nI w)), (5, .int ((ztq pw pd f rt fr n cr (zopN f n) w).2.2)), (4, .int ((ztq pw pd f rt fr n cr (zopN f n) w).2.1)), (3, .int ((ztq pw pd f rt fr n cr (zopN f n) w).1)), (2, .int (nI (zopN f n))), (0, .ref M), (1, .int (nI c))]) hE hl
              refine lv_iload hx hb dX9_tales_225 (lv_at hl 1 rfl) ?_
              refine lv_if_eq (tgt := 249) hx hb dX9_tales_227 (by decide) (fun c_27 => ?_) (fun c_27 => ?_)
              · have c_27 := zb0 c_27
                have hyy := c_27
                refine lv_iinc (v := nI (w + 1)) (lv' := [(6, .int (nI (w + 1))), (10, .int (nI i)), (9, .int (if zokc pw pd f rt fr n cr (zopN f n) k s = true then 1 else 0)), (8, .int (nI s)), (7, .int (nI k)), (5, .int ((ztq pw pd f rt fr n cr (zopN f n) w).2.2)), (4, .int ((ztq pw pd f rt fr n cr (zopN f n) w).2.1)), (3, .int ((ztq pw pd f rt fr n cr (zopN f n) w).1)), (2, .int (nI (zopN f n))), (0, .ref M), (1, .int (nI c))]) hx hb dX9_tales_249 hl (k := 4) rfl (z_inc _ 1) (by decide) rfl (fun ls hl => ?_)
                refine lv_goto (tgt := 92) hx hb dX9_tales_252 (by decide) ?_
                have hl : lv_has ls 12 [(6, .int (nI (w + 1))), (5, .int ((ztq pw pd f rt fr n cr (zopN f n) w).2.2)), (4, .int ((ztq pw pd f rt fr n cr (zopN f n) w).2.1)), (3, .int ((ztq pw pd f rt fr n cr (zopN f n) w).1)), (2, .int (nI (zopN f n))), (0, .ref M), (1, .int (nI c))] := lv_sub hl [0, 5, 6, 7, 8, 9, 10] rfl
                have e_28 : (ztq pw pd f rt fr n cr (zopN f n) w).2.2 = (ztq pw pd f rt fr n cr (zopN f n) (w + 1)).2.2 := by first | (rw [← ztq_n hke hse hyy]; done) | (rw [← ztq_y hke hse hyy]; done)
                have hl : lv_has ls 12 [(6, .int (nI (w + 1))), (5, .int ((ztq pw pd f rt fr n cr (zopN f n) (w + 1)).2.2)), (4, .int ((ztq pw pd f rt fr n cr (zopN f n) w).2.1)), (3, .int ((ztq pw pd f rt fr n cr (zopN f n) w).1)), (2, .int (nI (zopN f n))), (0, .ref M), (1, .int (nI c))] := Eq.subst (motive := fun zz_ => lv_has ls 12 [(6, .int (nI (w + 1))), (5, .int zz_), (4, .int ((ztq pw pd f rt fr n cr (zopN f n) w).2.1)), (3, .int ((ztq pw pd f rt fr n cr (zopN f n) w).1)), (2, .int (nI (zopN f n))), (0, .ref M), (1, .int (nI c))]) e_28 hl
                have e_29 : (ztq pw pd f rt fr n cr (zopN f n) w).2.1 = (ztq pw pd f rt fr n cr (zopN f n) (w + 1)).2.1 := by first | (rw [← ztq_n hke hse hyy]; done) | (rw [← ztq_y hke hse hyy]; done)
                have hl : lv_has ls 12 [(6, .int (nI (w + 1))), (5, .int ((ztq pw pd f rt fr n cr (zopN f n) (w + 1)).2.2)), (4, .int ((ztq pw pd f rt fr n cr (zopN f n) (w + 1)).2.1)), (3, .int ((ztq pw pd f rt fr n cr (zopN f n) w).1)), (2, .int (nI (zopN f n))), (0, .ref M), (1, .int (nI c))] := Eq.subst (motive := fun zz_ => lv_has ls 12 [(6, .int (nI (w + 1))), (5, .int ((ztq pw pd f rt fr n cr (zopN f n) (w + 1)).2.2)), (4, .int zz_), (3, .int ((ztq pw pd f rt fr n cr (zopN f n) w).1)), (2, .int (nI (zopN f n))), (0, .ref M), (1, .int (nI c))]) e_29 hl
                have e_30 : (ztq pw pd f rt fr n cr (zopN f n) w).1 = (ztq pw pd f rt fr n cr (zopN f n) (w + 1)).1 := by first | (rw [← ztq_n hke hse hyy]; done) | (rw [← ztq_y hke hse hyy]; done)
                have hl : lv_has ls 12 [(6, .int (nI (w + 1))), (5, .int ((ztq pw pd f rt fr n cr (zopN f n) (w + 1)).2.2)), (4, .int ((ztq pw pd f rt fr n cr (zopN f n) (w + 1)).2.1)), (3, .int ((ztq pw pd f rt fr n cr (zopN f n) (w + 1)).1)), (2, .int (nI (zopN f n))), (0, .ref M), (1, .int (nI c))] := Eq.subst (motive := fun zz_ => lv_has ls 12 [(6, .int (nI (w + 1))), (5, .int ((ztq pw pd f rt fr n cr (zopN f n) (w + 1)).2.2)), (4, .int ((ztq pw pd f rt fr n cr (zopN f n) (w + 1)).2.1)), (3, .int zz_), (2, .int (nI (zopN f n))), (0, .ref M), (1, .int (nI c))]) e_30 hl
                exact ih_7 _ _ _ (by omega) ⟨hP, hD, hS, hl⟩
              · have c_27 := zb1 c_27
                have hyy := c_27
                refine lv_iinc (v := ((ztq pw pd f rt fr n cr (zopN f n) w).1) + 1) (lv' := [(3, .int (((ztq pw pd f rt fr n cr (zopN f n) w).1) + 1)), (10, .int (nI i)), (9, .int (if zokc pw pd f rt fr n cr (zopN f n) k s = true then 1 else 0)), (8, .int (nI s)), (7, .int (nI k)), (6, .int (nI w)), (5, .int ((ztq pw pd f rt fr n cr (zopN f n) w).2.2)), (4, .int ((ztq pw pd f rt fr n cr (zopN f n) w).2.1)), (2, .int (nI (zopN f n))), (0, .ref M), (1, .int (nI c))]) hx hb dX9_tales_230 hl (k := 7) rfl rfl (by decide) rfl (fun ls hl => ?_)
                refine lv_iload hx hb dX9_tales_233 (lv_at hl 7 rfl) ?_
                refine lv_iconst (v := nI 1) hx hb dX9_tales_235 (by decide) ?_
                refine lv_iload hx hb dX9_tales_236 (lv_at hl 4 rfl) ?_
                refine lv_ishl hx hb dX9_tales_238 ?_
                refine z_top (y := (1 : Int32) <<< ((nI k) &&& 31)) rfl ?_
                refine z_top (y := zbit k) (rfl) ?_
                refine lv_ior hx hb dX9_tales_239 ?_
                refine z_top (y := ((ztq pw pd f rt fr n cr (zopN f n) w).2.1) ||| (zbit k)) rfl ?_
                refine lv_istore (lv' := [(4, .int (((ztq pw pd f rt fr n cr (zopN f n) w).2.1) ||| (zbit k))), (3, .int (((ztq pw pd f rt fr n cr (zopN f n) w).1) + 1)), (10, .int (nI i)), (9, .int (if zokc pw pd f rt fr n cr (zopN f n) k s = true then 1 else 0)), (8, .int (nI s)), (7, .int (nI k)), (6, .int (nI w)), (5, .int ((ztq pw pd f rt fr n cr (zopN f n) w).2.2)), (2, .int (nI (zopN f n))), (0, .ref M), (1, .int (nI c))]) hx hb dX9_tales_240 hl (by decide) rfl (fun ls hl => ?_)
                refine lv_iload hx hb dX9_tales_242 (lv_at hl 7 rfl) ?_
                refine lv_iload hx hb dX9_tales_244 (lv_at hl 4 rfl) ?_
                refine lv_iand hx hb dX9_tales_246 ?_
                refine z_top (y := ((ztq pw pd f rt fr n cr (zopN f n) w).2.2) &&& (nI s)) rfl ?_
                refine lv_istore (lv' := [(5, .int (((ztq pw pd f rt fr n cr (zopN f n) w).2.2) &&& (nI s))), (4, .int (((ztq pw pd f rt fr n cr (zopN f n) w).2.1) ||| (zbit k))), (3, .int (((ztq pw pd f rt fr n cr (zopN f n) w).1) + 1)), (10, .int (nI i)), (9, .int (if zokc pw pd f rt fr n cr (zopN f n) k s = true then 1 else 0)), (8, .int (nI s)), (7, .int (nI k)), (6, .int (nI w)), (2, .int (nI (zopN f n))), (0, .ref M), (1, .int (nI c))]) hx hb dX9_tales_247 hl (by decide) rfl (fun ls hl => ?_)
                refine lv_iinc (v := nI (w + 1)) (lv' := [(6, .int (nI (w + 1))), (5, .int (((ztq pw pd f rt fr n cr (zopN f n) w).2.2) &&& (nI s))), (4, .int (((ztq pw pd f rt fr n cr (zopN f n) w).2.1) ||| (zbit k))), (3, .int (((ztq pw pd f rt fr n cr (zopN f n) w).1) + 1)), (10, .int (nI i)), (9, .int (if zokc pw pd f rt fr n cr (zopN f n) k s = true then 1 else 0)), (8, .int (nI s)), (7, .int (nI k)), (2, .int (nI (zopN f n))), (0, .ref M), (1, .int (nI c))]) hx hb dX9_tales_249 hl (k := 7) rfl (z_inc _ 1) (by decide) rfl (fun ls hl => ?_)
                refine lv_goto (tgt := 92) hx hb dX9_tales_252 (by decide) ?_
                have hl : lv_has ls 12 [(6, .int (nI (w + 1))), (5, .int (((ztq pw pd f rt fr n cr (zopN f n) w).2.2) &&& (nI s))), (4, .int (((ztq pw pd f rt fr n cr (zopN f n) w).2.1) ||| (zbit k))), (3, .int (((ztq pw pd f rt fr n cr (zopN f n) w).1) + 1)), (2, .int (nI (zopN f n))), (0, .ref M), (1, .int (nI c))] := lv_sub hl [0, 1, 2, 3, 8, 9, 10] rfl
                have e_31 : ((ztq pw pd f rt fr n cr (zopN f n) w).2.2) &&& (nI s) = (ztq pw pd f rt fr n cr (zopN f n) (w + 1)).2.2 := by first | (rw [← ztq_n hke hse hyy]; done) | (rw [← ztq_y hke hse hyy]; done)
                have hl : lv_has ls 12 [(6, .int (nI (w + 1))), (5, .int ((ztq pw pd f rt fr n cr (zopN f n) (w + 1)).2.2)), (4, .int (((ztq pw pd f rt fr n cr (zopN f n) w).2.1) ||| (zbit k))), (3, .int (((ztq pw pd f rt fr n cr (zopN f n) w).1) + 1)), (2, .int (nI (zopN f n))), (0, .ref M), (1, .int (nI c))] := Eq.subst (motive := fun zz_ => lv_has ls 12 [(6, .int (nI (w + 1))), (5, .int zz_), (4, .int (((ztq pw pd f rt fr n cr (zopN f n) w).2.1) ||| (zbit k))), (3, .int (((ztq pw pd f rt fr n cr (zopN f n) w).1) + 1)), (2, .int (nI (zopN f n))), (0, .ref M), (1, .int (nI c))]) e_31 hl
                have e_32 : ((ztq pw pd f rt fr n cr (zopN f n) w).2.1) ||| (zbit k) = (ztq pw pd f rt fr n cr (zopN f n) (w + 1)).2.1 := by first | (rw [← ztq_n hke hse hyy]; done) | (rw [← ztq_y hke hse hyy]; done)
                have hl : lv_has ls 12 [(6, .int (nI (w + 1))), (5, .int ((ztq pw pd f rt fr n cr (zopN f n) (w + 1)).2.2)), (4, .int ((ztq pw pd f rt fr n cr (zopN f n) (w + 1)).2.1)), (3, .int (((ztq pw pd f rt fr n cr (zopN f n) w).1) + 1)), (2, .int (nI (zopN f n))), (0, .ref M), (1, .int (nI c))] := Eq.subst (motive := fun zz_ => lv_has ls 12 [(6, .int (nI (w + 1))), (5, .int ((ztq pw pd f rt fr n cr (zopN f n) (w + 1)).2.2)), (4, .int zz_), (3, .int (((ztq pw pd f rt fr n cr (zopN f n) w).1) + 1)), (2, .int (nI (zopN f n))), (0, .ref M), (1, .int (nI c))]) e_32 hl
                have e_33 : ((ztq pw pd f rt fr n cr (zopN f n) w).1) + 1 = (ztq pw pd f rt fr n cr (zopN f n) (w + 1)).1 := by first | (rw [← ztq_n hke hse hyy]; done) | (rw [← ztq_y hke hse hyy]; done)
                have hl : lv_has ls 12 [(6, .int (nI (w + 1))), (5, .int ((ztq pw pd f rt fr n cr (zopN f n) (w + 1)).2.2)), (4, .int ((ztq pw pd f rt fr n cr (zopN f n) (w + 1)).2.1)), (3, .int ((ztq pw pd f rt fr n cr (zopN f n) (w + 1)).1)), (2, .int (nI (zopN f n))), (0, .ref M), (1, .int (nI c))] := Eq.subst (motive := fun zz_ => lv_has ls 12 [(6, .int (nI (w + 1))), (5, .int ((ztq pw pd f rt fr n cr (zopN f n) (w + 1)).2.2)), (4, .int ((ztq pw pd f rt fr n cr (zopN f n) (w + 1)).2.1)), (3, .int zz_), (2, .int (nI (zopN f n))), (0, .ref M), (1, .int (nI c))]) e_33 hl
                exact ih_7 _ _ _ (by omega) ⟨hP, hD, hS, hl⟩
            · have c_26 := zb1 c_26
              have hok := c_26
              obtain ⟨a, ha5, ha⟩ := hpw i (by omega)
              refine lv_aload_n hx hb dX9_tales_158 rfl (lv_at hl 9 rfl) ?_
              refine z_get (ci := 9) (v := .ref mrw) Z zin9 hP 0 rfl rfl 27 (by decide) zm704 rfl rfl dX9_tales_159 ?_
              refine lv_iload hx hb dX9_tales_162 (lv_at hl 0 rfl) ?_
              refine z_iald (n := 6) (f := pw) (j := i) Z hP 2 rfl (by omega) (by decide) dX9_tales_164 ?_
              refine z_top (y := nI a) (ha) ?_
              refine lv_istore (lv' := [(11, .int (nI a)), (10, .int (nI i)), (9, .int (if zokc pw pd f rt fr n i (zopN f n) k s = true then 1 else 0)), (8, .int (nI s)), (7, .int (nI k)), (6, .int (nI w)), (5, .int ((ztq pw pd f rt fr n cr (zopN f n) w).2.2)), (4, .int ((ztq pw pd f rt fr n cr (zopN f n) w).2.1)), (3, .int ((ztq pw pd f rt fr n cr (zopN f n) w).1)), (2, .int (nI (zopN f n))), (0, .ref M), (1, .int (nI c))]) hx hb dX9_tales_165 hl (by decide) rfl (fun ls hl => ?_)
              refine lv_iload hx hb dX9_tales_167 (lv_at hl 0 rfl) ?_
              refine lv_aload_n hx hb dX9_tales_169 rfl (lv_at hl 10 rfl) ?_
              refine z_get (ci := 9) (v := .int (nI n)) Z zin9 hP 0 rfl rfl 8 (by decide) zm685 rfl rfl dX9_tales_170 ?_
              refine lv_icmp_ge (tgt := 212) hx hb dX9_tales_173 (by decide) (fun c_34 => ?_) (fun c_34 => ?_)
              · have c_34 := zle (i := n) (j := a) (by omega) (by omega) c_34
                refine lv_iconst (v := nI 1) hx hb dX9_tales_212 (by decide) ?_
                refine lv_goto (tgt := 217) hx hb dX9_tales_213 (by decide) ?_
                refine lv_istore (lv' := [(9, .int (nI 1)), (11, .int (nI a)), (10, .int (nI i)), (8, .int (nI s)), (7, .int (nI k)), (6, .int (nI w)), (5, .int ((ztq pw pd f rt fr n cr (zopN f n) w).2.2)), (4, .int ((ztq pw pd f rt fr n cr (zopN f n) w).2.1)), (3, .int ((ztq pw pd f rt fr n cr (zopN f n) w).1)), (2, .int (nI (zopN f n))), (0, .ref M), (1, .int (nI c))]) hx hb dX9_tales_217 hl (by decide) rfl (fun ls hl => ?_)
                refine lv_iinc (v := nI (i + 1)) (lv' := [(10, .int (nI (i + 1))), (9, .int (nI 1)), (11, .int (nI a)), (8, .int (nI s)), (7, .int (nI k)), (6, .int (nI w)), (5, .int ((ztq pw pd f rt fr n cr (zopN f n) w).2.2)), (4, .int ((ztq pw pd f rt fr n cr (zopN f n) w).2.1)), (3, .int ((ztq pw pd f rt fr n cr (zopN f n) w).1)), (2, .int (nI (zopN f n))), (0, .ref M), (1, .int (nI c))]) hx hb dX9_tales_219 hl (k := 2) rfl (z_inc _ 1) (by decide) rfl (fun ls hl => ?_)
                refine lv_goto (tgt := 144) hx hb dX9_tales_222 (by decide) ?_
                have hl : lv_has ls 12 [(10, .int (nI (i + 1))), (9, .int (nI 1)), (8, .int (nI s)), (7, .int (nI k)), (6, .int (nI w)), (5, .int ((ztq pw pd f rt fr n cr (zopN f n) w).2.2)), (4, .int ((ztq pw pd f rt fr n cr (zopN f n) w).2.1)), (3, .int ((ztq pw pd f rt fr n cr (zopN f n) w).1)), (2, .int (nI (zopN f n))), (0, .ref M), (1, .int (nI c))] := lv_sub hl [0, 1, 3, 4, 5, 6, 7, 8, 9, 10, 11] rfl
                have e_35 : nI 1 = (if zokc pw pd f rt fr n (i + 1) (zopN f n) k s = true then 1 else 0) := by first | (rw [if_pos (zokc_t hok (zfi_x ha (by omega) (by omega) hn))]; rfl) | (rw [if_pos (zokc_t hok (zfi_t ha (by omega) hn (by assumption) (by assumption)))]; rfl) | (rw [if_pos (zokc_t hok (zfi_t2 ha (by omega) hn (by assumption) (by assumption)))]; rfl) | (rw [if_neg (zokc_f (zfi_f ha (by omega) hn (by assumption) (by assumption)))]; rfl) | (rw [if_neg (zokc_f (zfi_f2 ha (by omega) hn (by assumption) (by assumption)))]; rfl)
                have hl : lv_has ls 12 [(10, .int (nI (i + 1))), (9, .int (if zokc pw pd f rt fr n (i + 1) (zopN f n) k s = true then 1 else 0)), (8, .int (nI s)), (7, .int (nI k)), (6, .int (nI w)), (5, .int ((ztq pw pd f rt fr n cr (zopN f n) w).2.2)), (4, .int ((ztq pw pd f rt fr n cr (zopN f n) w).2.1)), (3, .int ((ztq pw pd f rt fr n cr (zopN f n) w).1)), (2, .int (nI (zopN f n))), (0, .ref M), (1, .int (nI c))] := Eq.subst (motive := fun zz_ => lv_has ls 12 [(10, .int (nI (i + 1))), (9, .int zz_), (8, .int (nI s)), (7, .int (nI k)), (6, .int (nI w)), (5, .int ((ztq pw pd f rt fr n cr (zopN f n) w).2.2)), (4, .int ((ztq pw pd f rt fr n cr (zopN f n) w).2.1)), (3, .int ((ztq pw pd f rt fr n cr (zopN f n) w).1)), (2, .int (nI (zopN f n))), (0, .ref M), (1, .int (nI c))]) e_35 hl
                exact ih_16 _ _ _ (by omega) ⟨hP, hD, hS, hl⟩
              · have c_34 := znle (i := n) (j := a) (by omega) (by omega) c_34
                refine lv_aload_n hx hb dX9_tales_176 rfl (lv_at hl 10 rfl) ?_
                refine z_get (ci := 9) (v := .ref mrd) Z zin9 hP 0 rfl rfl 28 (by decide) zm705 rfl rfl dX9_tales_177 ?_
                refine lv_iload hx hb dX9_tales_180 (lv_at hl 1 rfl) ?_
                refine z_iald (n := 6) (f := pd) (j := i) Z hP 3 rfl (by omega) (by decide) dX9_tales_182 ?_
                refine lv_iload hx hb dX9_tales_183 (lv_at hl 3 rfl) ?_
                refine lv_iload hx hb dX9_tales_185 (lv_at hl 0 rfl) ?_
                refine z_callSi (As := [.int (nI s), .int (nI a)]) (rest := [.int (pd i)]) Z hP hD hS hl.1 (zc_X9_has l D cI cZ (nI s) a (by omega)) zm779 zm780 zm39 zm781 zd_X9_has ⟨Nat.le_of_ble_eq_true rfl, Nat.le_of_ble_eq_true rfl⟩ ⟨Nat.zero_le _, Nat.zero_le _⟩ [] rfl (by decide) (fun _ => rfl) rfl (Nat.le_of_ble_eq_true rfl) rfl dX9_tales_187 (fun r_36 u H locs h_37 hP hD hS => ?_)
                have hP : va_P D vwCl [(M, .inr (9, [.int (nI 0), .ref mtx, .int (nI len), .int (nI pl), .int rt, .int fr, .int pr, .ref mod_, .int (nI n), .ref mne, .ref mro, .int (nI m), .int rrt, .int rfr, .int rpr, .ref mrod, .int (nI rn9), .ref mrne, .ref mrro, .int (nI rm9), .ref mrp, .ref mpg, .ref mbk, .int (nI ac), .ref mke, .ref mik, .int (nI cr), .ref mrw, .ref mrd, .long sd, .ref mtr, .ref mwo, .ref mnx, .int jr])), (mpg, .inl (cI, 36, .inl g)), (mrw, .inl (cI, 6, .inl pw)), (mrd, .inl (cI, 6, .inl pd))] H := hP
                have hD : va_D A [(M, .inr (9, [.int (nI 0), .ref mtx, .int (nI len), .int (nI pl), .int rt, .int fr, .int pr, .ref mod_, .int (nI n), .ref mne, .ref mro, .int (nI m), .int rrt, .int rfr, .int rpr, .ref mrod, .int (nI rn9), .ref mrne, .ref mrro, .int (nI rm9), .ref mrp, .ref mpg, .ref mbk, .int (nI ac), .ref mke, .ref mik, .int (nI cr), .ref mrw, .ref mrd, .long sd, .ref mtr, .ref mwo, .ref mnx, .int jr])), (mpg, .inl (cI, 36, .inl g)), (mrw, .inl (cI, 6, .inl pw)), (mrd, .inl (cI, 6, .inl pd))] := hD
                have h_37 : r_36 = if zin (nI s) a then 1 else 0 := h_37
                subst h_37
                refine lv_if_eq (tgt := 197) hx hb dX9_tales_190 (by decide) (fun c_38 => ?_) (fun c_38 => ?_)
                · have c_38 := zb0 c_38
                  refine lv_aload_n hx hb dX9_tales_197 rfl (lv_at hl 10 rfl) ?_
                  refine lv_aload_n hx hb dX9_tales_198 rfl (lv_at hl 10 rfl) ?_
                  refine z_get (ci := 9) (v := .ref mpg) Z zin9 hP 0 rfl rfl 21 (by decide) zm698 rfl rfl dX9_tales_199 ?_
                  refine lv_iload hx hb dX9_tales_202 (lv_at hl 0 rfl) ?_
                  refine lv_iload hx hb dX9_tales_204 (lv_at hl 4 rfl) ?_
                  refine z_callVi (As := [.ref mpg, .int (nI a), .int (nI k)]) (rest := [.int (pd i)]) (ci := 9) (k0 := 0) Z hP hD hS hl.1 (zc_X9_taxOf l D cI cZ M (nI 0) mtx len pl rt fr pr mod_ n mne mro m rrt rfr rpr mrod rn9 mrne mrro rm9 mrp mpg mbk ac mke mik cr mrw mrd sd mtr mwo mnx jr mpg g f a k (by first | omega | exact hpg.1 a (by omega)) (by first | omega | exact hpg.1 a (by omega)) (by first | omega | exact hpg.1 a (by omega))) zm823 zm824 zm22 zm39 zm825 ⟨rfl, zd_X9_taxOf⟩ ⟨Nat.le_of_ble_eq_true rfl, Nat.le_of_ble_eq_true rfl⟩ ⟨Nat.zero_le _, Nat.zero_le _⟩ [0, 1] rfl (by decide) rfl rfl rfl (fun _ => rfl) rfl (Nat.le_of_ble_eq_true rfl) rfl dX9_tales_206 (fun r_39 u H locs h_40 hP hD hS => ?_)
                  have hP : va_P D vwCl [(M, .inr (9, [.int (nI 0), .ref mtx, .int (nI len), .int (nI pl), .int rt, .int fr, .int pr, .ref mod_, .int (nI n), .ref mne, .ref mro, .int (nI m), .int rrt, .int rfr, .int rpr, .ref mrod, .int (nI rn9), .ref mrne, .ref mrro, .int (nI rm9), .ref mrp, .ref mpg, .ref mbk, .int (nI ac), .ref mke, .ref mik, .int (nI cr), .ref mrw, .ref mrd, .long sd, .ref mtr, .ref mwo, .ref mnx, .int jr])), (mpg, .inl (cI, 36, .inl g)), (mrw, .inl (cI, 6, .inl pw)), (mrd, .inl (cI, 6, .inl pd))] H := hP
                  have hD : va_D A [(M, .inr (9, [.int (nI 0), .ref mtx, .int (nI len), .int (nI pl), .int rt, .int fr, .int pr, .ref mod_, .int (nI n), .ref mne, .ref mro, .int (nI m), .int rrt, .int rfr, .int rpr, .ref mrod, .int (nI rn9), .ref mrne, .ref mrro, .int (nI rm9), .ref mrp, .ref mpg, .ref mbk, .int (nI ac), .ref mke, .ref mik, .int (nI cr), .ref mrw, .ref mrd, .long sd, .ref mtr, .ref mwo, .ref mnx, .int jr])), (mpg, .inl (cI, 36, .inl g)), (mrw, .inl (cI, 6, .inl pw)), (mrd, .inl (cI, 6, .inl pd))] := hD
                  have h_40 : r_39 = ztax f rt fr a k := h_40
                  subst h_40
                  refine lv_icmp_ne (tgt := 216) hx hb dX9_tales_209 (by decide) (fun c_41 => ?_) (fun c_41 => ?_)
                  · have c_41 : ¬ ((pd i) = (ztax f rt fr a k)) := c_41
                    refine lv_iconst (v := nI 0) hx hb dX9_tales_216 (by decide) ?_
                    refine lv_istore (lv' := [(9, .int (nI 0)), (11, .int (nI a)), (10, .int (nI i)), (8, .int (nI s)), (7, .int (nI k)), (6, .int (nI w)), (5, .int ((ztq pw pd f rt fr n cr (zopN f n) w).2.2)), (4, .int ((ztq pw pd f rt fr n cr (zopN f n) w).2.1)), (3, .int ((ztq pw pd f rt fr n cr (zopN f n) w).1)), (2, .int (nI (zopN f n))), (0, .ref M), (1, .int (nI c))]) hx hb dX9_tales_217 hl (by decide) rfl (fun ls hl => ?_)
                    refine lv_iinc (v := nI (i + 1)) (lv' := [(10, .int (nI (i + 1))), (9, .int (nI 0)), (11, .int (nI a)), (8, .int (nI s)), (7, .int (nI k)), (6, .int (nI w)), (5, .int ((ztq pw pd f rt fr n cr (zopN f n) w).2.2)), (4, .int ((ztq pw pd f rt fr n cr (zopN f n) w).2.1)), (3, .int ((ztq pw pd f rt fr n cr (zopN f n) w).1)), (2, .int (nI (zopN f n))), (0, .ref M), (1, .int (nI c))]) hx hb dX9_tales_219 hl (k := 2) rfl (z_inc _ 1) (by decide) rfl (fun ls hl => ?_)
                    refine lv_goto (tgt := 144) hx hb dX9_tales_222 (by decide) ?_
                    have hl : lv_has ls 12 [(10, .int (nI (i + 1))), (9, .int (nI 0)), (8, .int (nI s)), (7, .int (nI k)), (6, .int (nI w)), (5, .int ((ztq pw pd f rt fr n cr (zopN f n) w).2.2)), (4, .int ((ztq pw pd f rt fr n cr (zopN f n) w).2.1)), (3, .int ((ztq pw pd f rt fr n cr (zopN f n) w).1)), (2, .int (nI (zopN f n))), (0, .ref M), (1, .int (nI c))] := lv_sub hl [0, 1, 3, 4, 5, 6, 7, 8, 9, 10, 11] rfl
                    have e_42 : nI 0 = (if zokc pw pd f rt fr n (i + 1) (zopN f n) k s = true then 1 else 0) := by first | (rw [if_pos (zokc_t hok (zfi_x ha (by omega) (by omega) hn))]; rfl) | (rw [if_pos (zokc_t hok (zfi_t ha (by omega) hn (by assumption) (by assumption)))]; rfl) | (rw [if_pos (zokc_t hok (zfi_t2 ha (by omega) hn (by assumption) (by assumption)))]; rfl) | (rw [if_neg (zokc_f (zfi_f ha (by omega) hn (by assumption) (by assumption)))]; rfl) | (rw [if_neg (zokc_f (zfi_f2 ha (by omega) hn (by assumption) (by assumption)))]; rfl)
                    have hl : lv_has ls 12 [(10, .int (nI (i + 1))), (9, .int (if zokc pw pd f rt fr n (i + 1) (zopN f n) k s = true then 1 else 0)), (8, .int (nI s)), (7, .int (nI k)), (6, .int (nI w)), (5, .int ((ztq pw pd f rt fr n cr (zopN f n) w).2.2)), (4, .int ((ztq pw pd f rt fr n cr (zopN f n) w).2.1)), (3, .int ((ztq pw pd f rt fr n cr (zopN f n) w).1)), (2, .int (nI (zopN f n))), (0, .ref M), (1, .int (nI c))] := Eq.subst (motive := fun zz_ => lv_has ls 12 [(10, .int (nI (i + 1))), (9, .int zz_), (8, .int (nI s)), (7, .int (nI k)), (6, .int (nI w)), (5, .int ((ztq pw pd f rt fr n cr (zopN f n) w).2.2)), (4, .int ((ztq pw pd f rt fr n cr (zopN f n) w).2.1)), (3, .int ((ztq pw pd f rt fr n cr (zopN f n) w).1)), (2, .int (nI (zopN f n))), (0, .ref M), (1, .int (nI c))]) e_42 hl
                    exact ih_16 _ _ _ (by omega) ⟨hP, hD, hS, hl⟩
                  · have c_41 : (pd i) = (ztax f rt fr a k) := c_41
                    refine lv_iconst (v := nI 1) hx hb dX9_tales_212 (by decide) ?_
                    refine lv_goto (tgt := 217) hx hb dX9_tales_213 (by decide) ?_
                    refine lv_istore (lv' := [(9, .int (nI 1)), (11, .int (nI a)), (10, .int (nI i)), (8, .int (nI s)), (7, .int (nI k)), (6, .int (nI w)), (5, .int ((ztq pw pd f rt fr n cr (zopN f n) w).2.2)), (4, .int ((ztq pw pd f rt fr n cr (zopN f n) w).2.1)), (3, .int ((ztq pw pd f rt fr n cr (zopN f n) w).1)), (2, .int (nI (zopN f n))), (0, .ref M), (1, .int (nI c))]) hx hb dX9_tales_217 hl (by decide) rfl (fun ls hl => ?_)
                    refine lv_iinc (v := nI (i + 1)) (lv' := [(10, .int (nI (i + 1))), (9, .int (nI 1)), (11, .int (nI a)), (8, .int (nI s)), (7, .int (nI k)), (6, .int (nI w)), (5, .int ((ztq pw pd f rt fr n cr (zopN f n) w).2.2)), (4, .int ((ztq pw pd f rt fr n cr (zopN f n) w).2.1)), (3, .int ((ztq pw pd f rt fr n cr (zopN f n) w).1)), (2, .int (nI (zopN f n))), (0, .ref M), (1, .int (nI c))]) hx hb dX9_tales_219 hl (k := 2) rfl (z_inc _ 1) (by decide) rfl (fun ls hl => ?_)
                    refine lv_goto (tgt := 144) hx hb dX9_tales_222 (by decide) ?_
                    have hl : lv_has ls 12 [(10, .int (nI (i + 1))), (9, .int (nI 1)), (8, .int (nI s)), (7, .int (nI k)), (6, .int (nI w)), (5, .int ((ztq pw pd f rt fr n cr (zopN f n) w).2.2)), (4, .int ((ztq pw pd f rt fr n cr (zopN f n) w).2.1)), (3, .int ((ztq pw pd f rt fr n cr (zopN f n) w).1)), (2, .int (nI (zopN f n))), (0, .ref M), (1, .int (nI c))] := lv_sub hl [0, 1, 3, 4, 5, 6, 7, 8, 9, 10, 11] rfl
                    have e_43 : nI 1 = (if zokc pw pd f rt fr n (i + 1) (zopN f n) k s = true then 1 else 0) := by first | (rw [if_pos (zokc_t hok (zfi_x ha (by omega) (by omega) hn))]; rfl) | (rw [if_pos (zokc_t hok (zfi_t ha (by omega) hn (by assumption) (by assumption)))]; rfl) | (rw [if_pos (zokc_t hok (zfi_t2 ha (by omega) hn (by assumption) (by assumption)))]; rfl) | (rw [if_neg (zokc_f (zfi_f ha (by omega) hn (by assumption) (by assumption)))]; rfl) | (rw [if_neg (zokc_f (zfi_f2 ha (by omega) hn (by assumption) (by assumption)))]; rfl)
                    have hl : lv_has ls 12 [(10, .int (nI (i + 1))), (9, .int (if zokc pw pd f rt fr n (i + 1) (zopN f n) k s = true then 1 else 0)), (8, .int (nI s)), (7, .int (nI k)), (6, .int (nI w)), (5, .int ((ztq pw pd f rt fr n cr (zopN f n) w).2.2)), (4, .int ((ztq pw pd f rt fr n cr (zopN f n) w).2.1)), (3, .int ((ztq pw pd f rt fr n cr (zopN f n) w).1)), (2, .int (nI (zopN f n))), (0, .ref M), (1, .int (nI c))] := Eq.subst (motive := fun zz_ => lv_has ls 12 [(10, .int (nI (i + 1))), (9, .int zz_), (8, .int (nI s)), (7, .int (nI k)), (6, .int (nI w)), (5, .int ((ztq pw pd f rt fr n cr (zopN f n) w).2.2)), (4, .int ((ztq pw pd f rt fr n cr (zopN f n) w).2.1)), (3, .int ((ztq pw pd f rt fr n cr (zopN f n) w).1)), (2, .int (nI (zopN f n))), (0, .ref M), (1, .int (nI c))]) e_43 hl
                    exact ih_16 _ _ _ (by omega) ⟨hP, hD, hS, hl⟩
                · have c_38 := zb1 c_38
                  refine lv_iconst (v := nI 0) hx hb dX9_tales_193 (by decide) ?_
                  refine lv_goto (tgt := 209) hx hb dX9_tales_194 (by decide) ?_
                  refine lv_icmp_ne (tgt := 216) hx hb dX9_tales_209 (by decide) (fun c_44 => ?_) (fun c_44 => ?_)
                  · have c_44 : ¬ ((pd i) = 0) := c_44
                    refine lv_iconst (v := nI 0) hx hb dX9_tales_216 (by decide) ?_
                    refine lv_istore (lv' := [(9, .int (nI 0)), (11, .int (nI a)), (10, .int (nI i)), (8, .int (nI s)), (7, .int (nI k)), (6, .int (nI w)), (5, .int ((ztq pw pd f rt fr n cr (zopN f n) w).2.2)), (4, .int ((ztq pw pd f rt fr n cr (zopN f n) w).2.1)), (3, .int ((ztq pw pd f rt fr n cr (zopN f n) w).1)), (2, .int (nI (zopN f n))), (0, .ref M), (1, .int (nI c))]) hx hb dX9_tales_217 hl (by decide) rfl (fun ls hl => ?_)
                    refine lv_iinc (v := nI (i + 1)) (lv' := [(10, .int (nI (i + 1))), (9, .int (nI 0)), (11, .int (nI a)), (8, .int (nI s)), (7, .int (nI k)), (6, .int (nI w)), (5, .int ((ztq pw pd f rt fr n cr (zopN f n) w).2.2)), (4, .int ((ztq pw pd f rt fr n cr (zopN f n) w).2.1)), (3, .int ((ztq pw pd f rt fr n cr (zopN f n) w).1)), (2, .int (nI (zopN f n))), (0, .ref M), (1, .int (nI c))]) hx hb dX9_tales_219 hl (k := 2) rfl (z_inc _ 1) (by decide) rfl (fun ls hl => ?_)
                    refine lv_goto (tgt := 144) hx hb dX9_tales_222 (by decide) ?_
                    have hl : lv_has ls 12 [(10, .int (nI (i + 1))), (9, .int (nI 0)), (8, .int (nI s)), (7, .int (nI k)), (6, .int (nI w)), (5, .int ((ztq pw pd f rt fr n cr (zopN f n) w).2.2)), (4, .int ((ztq pw pd f rt fr n cr (zopN f n) w).2.1)), (3, .int ((ztq pw pd f rt fr n cr (zopN f n) w).1)), (2, .int (nI (zopN f n))), (0, .ref M), (1, .int (nI c))] := lv_sub hl [0, 1, 3, 4, 5, 6, 7, 8, 9, 10, 11] rfl
                    have e_45 : nI 0 = (if zokc pw pd f rt fr n (i + 1) (zopN f n) k s = true then 1 else 0) := by first | (rw [if_pos (zokc_t hok (zfi_x ha (by omega) (by omega) hn))]; rfl) | (rw [if_pos (zokc_t hok (zfi_t ha (by omega) hn (by assumption) (by assumption)))]; rfl) | (rw [if_pos (zokc_t hok (zfi_t2 ha (by omega) hn (by assumption) (by assumption)))]; rfl) | (rw [if_neg (zokc_f (zfi_f ha (by omega) hn (by assumption) (by assumption)))]; rfl) | (rw [if_neg (zokc_f (zfi_f2 ha (by omega) hn (by assumption) (by assumption)))]; rfl)
                    have hl : lv_has ls 12 [(10, .int (nI (i + 1))), (9, .int (if zokc pw pd f rt fr n (i + 1) (zopN f n) k s = true then 1 else 0)), (8, .int (nI s)), (7, .int (nI k)), (6, .int (nI w)), (5, .int ((ztq pw pd f rt fr n cr (zopN f n) w).2.2)), (4, .int ((ztq pw pd f rt fr n cr (zopN f n) w).2.1)), (3, .int ((ztq pw pd f rt fr n cr (zopN f n) w).1)), (2, .int (nI (zopN f n))), (0, .ref M), (1, .int (nI c))] := Eq.subst (motive := fun zz_ => lv_has ls 12 [(10, .int (nI (i + 1))), (9, .int zz_), (8, .int (nI s)), (7, .int (nI k)), (6, .int (nI w)), (5, .int ((ztq pw pd f rt fr n cr (zopN f n) w).2.2)), (4, .int ((ztq pw pd f rt fr n cr (zopN f n) w).2.1)), (3, .int ((ztq pw pd f rt fr n cr (zopN f n) w).1)), (2, .int (nI (zopN f n))), (0, .ref M), (1, .int (nI c))]) e_45 hl
                    exact ih_16 _ _ _ (by omega) ⟨hP, hD, hS, hl⟩
                  · have c_44 : (pd i) = 0 := c_44
                    refine lv_iconst (v := nI 1) hx hb dX9_tales_212 (by decide) ?_
                    refine lv_goto (tgt := 217) hx hb dX9_tales_213 (by decide) ?_
                    refine lv_istore (lv' := [(9, .int (nI 1)), (11, .int (nI a)), (10, .int (nI i)), (8, .int (nI s)), (7, .int (nI k)), (6, .int (nI w)), (5, .int ((ztq pw pd f rt fr n cr (zopN f n) w).2.2)), (4, .int ((ztq pw pd f rt fr n cr (zopN f n) w).2.1)), (3, .int ((ztq pw pd f rt fr n cr (zopN f n) w).1)), (2, .int (nI (zopN f n))), (0, .ref M), (1, .int (nI c))]) hx hb dX9_tales_217 hl (by decide) rfl (fun ls hl => ?_)
                    refine lv_iinc (v := nI (i + 1)) (lv' := [(10, .int (nI (i + 1))), (9, .int (nI 1)), (11, .int (nI a)), (8, .int (nI s)), (7, .int (nI k)), (6, .int (nI w)), (5, .int ((ztq pw pd f rt fr n cr (zopN f n) w).2.2)), (4, .int ((ztq pw pd f rt fr n cr (zopN f n) w).2.1)), (3, .int ((ztq pw pd f rt fr n cr (zopN f n) w).1)), (2, .int (nI (zopN f n))), (0, .ref M), (1, .int (nI c))]) hx hb dX9_tales_219 hl (k := 2) rfl (z_inc _ 1) (by decide) rfl (fun ls hl => ?_)
                    refine lv_goto (tgt := 144) hx hb dX9_tales_222 (by decide) ?_
                    have hl : lv_has ls 12 [(10, .int (nI (i + 1))), (9, .int (nI 1)), (8, .int (nI s)), (7, .int (nI k)), (6, .int (nI w)), (5, .int ((ztq pw pd f rt fr n cr (zopN f n) w).2.2)), (4, .int ((ztq pw pd f rt fr n cr (zopN f n) w).2.1)), (3, .int ((ztq pw pd f rt fr n cr (zopN f n) w).1)), (2, .int (nI (zopN f n))), (0, .ref M), (1, .int (nI c))] := lv_sub hl [0, 1, 3, 4, 5, 6, 7, 8, 9, 10, 11] rfl
                    have e_46 : nI 1 = (if zokc pw pd f rt fr n (i + 1) (zopN f n) k s = true then 1 else 0) := by first | (rw [if_pos (zokc_t hok (zfi_x ha (by omega) (by omega) hn))]; rfl) | (rw [if_pos (zokc_t hok (zfi_t ha (by omega) hn (by assumption) (by assumption)))]; rfl) | (rw [if_pos (zokc_t hok (zfi_t2 ha (by omega) hn (by assumption) (by assumption)))]; rfl) | (rw [if_neg (zokc_f (zfi_f ha (by omega) hn (by assumption) (by assumption)))]; rfl) | (rw [if_neg (zokc_f (zfi_f2 ha (by omega) hn (by assumption) (by assumption)))]; rfl)
                    have hl : lv_has ls 12 [(10, .int (nI (i + 1))), (9, .int (if zokc pw pd f rt fr n (i + 1) (zopN f n) k s = true then 1 else 0)), (8, .int (nI s)), (7, .int (nI k)), (6, .int (nI w)), (5, .int ((ztq pw pd f rt fr n cr (zopN f n) w).2.2)), (4, .int ((ztq pw pd f rt fr n cr (zopN f n) w).2.1)), (3, .int ((ztq pw pd f rt fr n cr (zopN f n) w).1)), (2, .int (nI (zopN f n))), (0, .ref M), (1, .int (nI c))] := Eq.subst (motive := fun zz_ => lv_has ls 12 [(10, .int (nI (i + 1))), (9, .int zz_), (8, .int (nI s)), (7, .int (nI k)), (6, .int (nI w)), (5, .int ((ztq pw pd f rt fr n cr (zopN f n) w).2.2)), (4, .int ((ztq pw pd f rt fr n cr (zopN f n) w).2.1)), (3, .int ((ztq pw pd f rt fr n cr (zopN f n) w).1)), (2, .int (nI (zopN f n))), (0, .ref M), (1, .int (nI c))]) e_46 hl
                    exact ih_16 _ _ _ (by omega) ⟨hP, hD, hS, hl⟩
        · have c_15 : ((nI s) &&& ((nI (zopN f n)) ^^^ (-1))) = 0 := c_15
          have hsb := c_15
          refine lv_iconst (v := nI 1) hx hb dX9_tales_134 (by decide) ?_
          refine lv_goto (tgt := 139) hx hb dX9_tales_135 (by decide) ?_
          refine lv_istore (lv' := [(9, .int (nI 1)), (8, .int (nI s)), (7, .int (nI k)), (6, .int (nI w)), (5, .int ((ztq pw pd f rt fr n cr (zopN f n) w).2.2)), (4, .int ((ztq pw pd f rt fr n cr (zopN f n) w).2.1)), (3, .int ((ztq pw pd f rt fr n cr (zopN f n) w).1)), (2, .int (nI (zopN f n))), (0, .ref M), (1, .int (nI c))]) hx hb dX9_tales_139 hl (by decide) rfl (fun ls hl => ?_)
          refine lv_iconst (v := nI 0) hx hb dX9_tales_141 (by decide) ?_
          refine lv_istore (lv' := [(10, .int (nI 0)), (9, .int (nI 1)), (8, .int (nI s)), (7, .int (nI k)), (6, .int (nI w)), (5, .int ((ztq pw pd f rt fr n cr (zopN f n) w).2.2)), (4, .int ((ztq pw pd f rt fr n cr (zopN f n) w).2.1)), (3, .int ((ztq pw pd f rt fr n cr (zopN f n) w).1)), (2, .int (nI (zopN f n))), (0, .ref M), (1, .int (nI c))]) hx hb dX9_tales_142 hl (by decide) rfl (fun ls hl => ?_)
          have hl : lv_has ls 12 [(10, .int (nI 0)), (9, .int (nI 1)), (8, .int (nI s)), (7, .int (nI k)), (6, .int (nI w)), (5, .int ((ztq pw pd f rt fr n cr (zopN f n) w).2.2)), (4, .int ((ztq pw pd f rt fr n cr (zopN f n) w).2.1)), (3, .int ((ztq pw pd f rt fr n cr (zopN f n) w).1)), (2, .int (nI (zopN f n))), (0, .ref M), (1, .int (nI c))] := lv_sub hl [0, 1, 2, 3, 4, 5, 6, 7, 8, 9, 10] rfl
          have e_48 : nI 1 = (if zokc pw pd f rt fr n 0 (zopN f n) k s = true then 1 else 0) := by first | (rw [if_pos (zokc_0.trans (decide_eq_true hsb))]; rfl) | (rw [if_neg (fun z => hsb (of_decide_eq_true (zokc_0.symm.trans z)))]; rfl)
          have hl : lv_has ls 12 [(10, .int (nI 0)), (9, .int (if zokc pw pd f rt fr n 0 (zopN f n) k s = true then 1 else 0)), (8, .int (nI s)), (7, .int (nI k)), (6, .int (nI w)), (5, .int ((ztq pw pd f rt fr n cr (zopN f n) w).2.2)), (4, .int ((ztq pw pd f rt fr n cr (zopN f n) w).2.1)), (3, .int ((ztq pw pd f rt fr n cr (zopN f n) w).1)), (2, .int (nI (zopN f n))), (0, .ref M), (1, .int (nI c))] := Eq.subst (motive := fun zz_ => lv_has ls 12 [(10, .int (nI 0)), (9, .int zz_), (8, .int (nI s)), (7, .int (nI k)), (6, .int (nI w)), (5, .int ((ztq pw pd f rt fr n cr (zopN f n) w).2.2)), (4, .int ((ztq pw pd f rt fr n cr (zopN f n) w).2.1)), (3, .int ((ztq pw pd f rt fr n cr (zopN f n) w).1)), (2, .int (nI (zopN f n))), (0, .ref M), (1, .int (nI c))]) e_48 hl
          refine z_loop (fun i H locs ls => va_P D vwCl [(M, .inr (9, [.int (nI 0), .ref mtx, .int (nI len), .int (nI pl), .int rt, .int fr, .int pr, .ref mod_, .int (nI n), .ref mne, .ref mro, .int (nI m), .int rrt, .int rfr, .int rpr, .ref mrod, .int (nI rn9), .ref mrne, .ref mrro, .int (nI rm9), .ref mrp, .ref mpg, .ref mbk, .int (nI ac), .ref mke, .ref mik, .int (nI cr), .ref mrw, .ref mrd, .long sd, .ref mtr, .ref mwo, .ref mnx, .int jr])), (mpg, .inl (cI, 36, .inl g)), (mrw, .inl (cI, 6, .inl pw)), (mrd, .inl (cI, 6, .inl pd))] H ∧ va_D A [(M, .inr (9, [.int (nI 0), .ref mtx, .int (nI len), .int (nI pl), .int rt, .int fr, .int pr, .ref mod_, .int (nI n), .ref mne, .ref mro, .int (nI m), .int rrt, .int rfr, .int rpr, .ref mrod, .int (nI rn9), .ref mrne, .ref mrro, .int (nI rm9), .ref mrp, .ref mpg, .ref mbk, .int (nI ac), .ref mke, .ref mik, .int (nI cr), .ref mrw, .ref mrd, .long sd, .ref mtr, .ref mwo, .ref mnx, .int jr])), (mpg, .inl (cI, 36, .inl g)), (mrw, .inl (cI, 6, .inl pw)), (mrd, .inl (cI, 6, .inl pd))] ∧ va_S A sS.heap H locs ∧ lv_has ls 12 [(10, .int (nI i)), (9, .int (if zokc pw pd f rt fr n i (zopN f n) k s = true then 1 else 0)), (8, .int (nI s)), (7, .int (nI k)), (6, .int (nI w)), (5, .int ((ztq pw pd f rt fr n cr (zopN f n) w).2.2)), (4, .int ((ztq pw pd f rt fr n cr (zopN f n) w).2.1)), (3, .int ((ztq pw pd f rt fr n cr (zopN f n) w).1)), (2, .int (nI (zopN f n))), (0, .ref M), (1, .int (nI c))]) (cr) (lo := 0) (by omega) ⟨hP, hD, hS, hl⟩ (fun i hi_i ih_47 H locs ls hI => ?_)
          obtain ⟨hP, hD, hS, hl⟩ := hI
          have hP : va_P D vwCl [(M, .inr (9, [.int (nI 0), .ref mtx, .int (nI len), .int (nI pl), .int rt, .int fr, .int pr, .ref mod_, .int (nI n), .ref mne, .ref mro, .int (nI m), .int rrt, .int rfr, .int rpr, .ref mrod, .int (nI rn9), .ref mrne, .ref mrro, .int (nI rm9), .ref mrp, .ref mpg, .ref mbk, .int (nI ac), .ref mke, .ref mik, .int (nI cr), .ref mrw, .ref mrd, .long sd, .ref mtr, .ref mwo, .ref mnx, .int jr])), (mpg, .inl (cI, 36, .inl g)), (mrw, .inl (cI, 6, .inl pw)), (mrd, .inl (cI, 6, .inl pd))] H := hP
          have hD : va_D A [(M, .inr (9, [.int (nI 0), .ref mtx, .int (nI len), .int (nI pl), .int rt, .int fr, .int pr, .ref mod_, .int (nI n), .ref mne, .ref mro, .int (nI m), .int rrt, .int rfr, .int rpr, .ref mrod, .int (nI rn9), .ref mrne, .ref mrro, .int (nI rm9), .ref mrp, .ref mpg, .ref mbk, .int (nI ac), .ref mke, .ref mik, .int (nI cr), .ref mrw, .ref mrd, .long sd, .ref mtr, .ref mwo, .ref mnx, .int jr])), (mpg, .inl (cI, 36, .inl g)), (mrw, .inl (cI, 6, .inl pw)), (mrd, .inl (cI, 6, .inl pd))] := hD
          have hl : lv_has ls 12 [(10, .int (nI i)), (9, .int (if zokc pw pd f rt fr n i (zopN f n) k s = true then 1 else 0)), (8, .int (nI s)), (7, .int (nI k)), (6, .int (nI w)), (5, .int ((ztq pw pd f rt fr n cr (zopN f n) w).2.2)), (4, .int ((ztq pw pd f rt fr n cr (zopN f n) w).2.1)), (3, .int ((ztq pw pd f rt fr n cr (zopN f n) w).1)), (2, .int (nI (zopN f n))), (0, .ref M), (1, .int (nI c))] := hl
          refine lv_iload hx hb dX9_tales_144 (lv_at hl 0 rfl) ?_
          refine lv_aload_n hx hb dX9_tales_146 rfl (lv_at hl 9 rfl) ?_
          refine z_get (ci := 9) (v := .int (nI cr)) Z zin9 hP 0 rfl rfl 26 (by decide) zm703 rfl rfl dX9_tales_147 ?_
          refine lv_icmp_ge (tgt := 225) hx hb dX9_tales_150 (by decide) (fun c_49 => ?_) (fun c_49 => ?_)
          · have c_49 := zle (i := cr) (j := i) (by omega) (by omega) c_49
            have hE_ : cr = i := by omega
            subst hE_
            refine lv_iload hx hb dX9_tales_225 (lv_at hl 1 rfl) ?_
            refine lv_if_eq (tgt := 249) hx hb dX9_tales_227 (by decide) (fun c_50 => ?_) (fun c_50 => ?_)
            · have c_50 := zb0 c_50
              have hyy := c_50
              refine lv_iinc (v := nI (w + 1)) (lv' := [(6, .int (nI (w + 1))), (10, .int (nI cr)), (9, .int (if zokc pw pd f rt fr n cr (zopN f n) k s = true then 1 else 0)), (8, .int (nI s)), (7, .int (nI k)), (5, .int ((ztq pw pd f rt fr n cr (zopN f n) w).2.2)), (4, .int ((ztq pw pd f rt fr n cr (zopN f n) w).2.1)), (3, .int ((ztq pw pd f rt fr n cr (zopN f n) w).1)), (2, .int (nI (zopN f n))), (0, .ref M), (1, .int (nI c))]) hx hb dX9_tales_249 hl (k := 4) rfl (z_inc _ 1) (by decide) rfl (fun ls hl => ?_)
              refine lv_goto (tgt := 92) hx hb dX9_tales_252 (by decide) ?_
              have hl : lv_has ls 12 [(6, .int (nI (w + 1))), (5, .int ((ztq pw pd f rt fr n cr (zopN f n) w).2.2)), (4, .int ((ztq pw pd f rt fr n cr (zopN f n) w).2.1)), (3, .int ((ztq pw pd f rt fr n cr (zopN f n) w).1)), (2, .int (nI (zopN f n))), (0, .ref M), (1, .int (nI c))] := lv_sub hl [0, 5, 6, 7, 8, 9, 10] rfl
              have e_51 : (ztq pw pd f rt fr n cr (zopN f n) w).2.2 = (ztq pw pd f rt fr n cr (zopN f n) (w + 1)).2.2 := by first | (rw [← ztq_n hke hse hyy]; done) | (rw [← ztq_y hke hse hyy]; done)
              have hl : lv_has ls 12 [(6, .int (nI (w + 1))), (5, .int ((ztq pw pd f rt fr n cr (zopN f n) (w + 1)).2.2)), (4, .int ((ztq pw pd f rt fr n cr (zopN f n) w).2.1)), (3, .int ((ztq pw pd f rt fr n cr (zopN f n) w).1)), (2, .int (nI (zopN f n))), (0, .ref M), (1, .int (nI c))] := Eq.subst (motive := fun zz_ => lv_has ls 12 [(6, .int (nI (w + 1))), (5, .int zz_), (4, .int ((ztq pw pd f rt fr n cr (zopN f n) w).2.1)), (3, .int ((ztq pw pd f rt fr n cr (zopN f n) w).1)), (2, .int (nI (zopN f n))), (0, .ref M), (1, .int (nI c))]) e_51 hl
              have e_52 : (ztq pw pd f rt fr n cr (zopN f n) w).2.1 = (ztq pw pd f rt fr n cr (zopN f n) (w + 1)).2.1 := by first | (rw [← ztq_n hke hse hyy]; done) | (rw [← ztq_y hke hse hyy]; done)
              have hl : lv_has ls 12 [(6, .int (nI (w + 1))), (5, .int ((ztq pw pd f rt fr n cr (zopN f n) (w + 1)).2.2)), (4, .int ((ztq pw pd f rt fr n cr (zopN f n) (w + 1)).2.1)), (3, .int ((ztq pw pd f rt fr n cr (zopN f n) w).1)), (2, .int (nI (zopN f n))), (0, .ref M), (1, .int (nI c))] := Eq.subst (motive := fun zz_ => lv_has ls 12 [(6, .int (nI (w + 1))), (5, .int ((ztq pw pd f rt fr n cr (zopN f n) (w + 1)).2.2)), (4, .int zz_), (3, .int ((ztq pw pd f rt fr n cr (zopN f n) w).1)), (2, .int (nI (zopN f n))), (0, .ref M), (1, .int (nI c))]) e_52 hl
              have e_53 : (ztq pw pd f rt fr n cr (zopN f n) w).1 = (ztq pw pd f rt fr n cr (zopN f n) (w + 1)).1 := by first | (rw [← ztq_n hke hse hyy]; done) | (rw [← ztq_y hke hse hyy]; done)
              have hl : lv_has ls 12 [(6, .int (nI (w + 1))), (5, .int ((ztq pw pd f rt fr n cr (zopN f n) (w + 1)).2.2)), (4, .int ((ztq pw pd f rt fr n cr (zopN f n) (w + 1)).2.1)), (3, .int ((ztq pw pd f rt fr n cr (zopN f n) (w + 1)).1)), (2, .int (nI (zopN f n))), (0, .ref M), (1, .int (nI c))] := Eq.subst (motive := fun zz_ => lv_has ls 12 [(6, .int (nI (w + 1))), (5, .int ((ztq pw pd f rt fr n cr (zopN f n) (w + 1)).2.2)), (4, .int ((ztq pw pd f rt fr n cr (zopN f n) (w + 1)).2.1)), (3, .int zz_), (2, .int (nI (zopN f n))), (0, .ref M), (1, .int (nI c))]) e_53 hl
              exact ih_7 _ _ _ (by omega) ⟨hP, hD, hS, hl⟩
            · have c_50 := zb1 c_50
              have hyy := c_50
              refine lv_iinc (v := ((ztq pw pd f rt fr n cr (zopN f n) w).1) + 1) (lv' := [(3, .int (((ztq pw pd f rt fr n cr (zopN f n) w).1) + 1)), (10, .int (nI cr)), (9, .int (if zokc pw pd f rt fr n cr (zopN f n) k s = true then 1 else 0)), (8, .int (nI s)), (7, .int (nI k)), (6, .int (nI w)), (5, .int ((ztq pw pd f rt fr n cr (zopN f n) w).2.2)), (4, .int ((ztq pw pd f rt fr n cr (zopN f n) w).2.1)), (2, .int (nI (zopN f n))), (0, .ref M), (1, .int (nI c))]) hx hb dX9_tales_230 hl (k := 7) rfl rfl (by decide) rfl (fun ls hl => ?_)
              refine lv_iload hx hb dX9_tales_233 (lv_at hl 7 rfl) ?_
              refine lv_iconst (v := nI 1) hx hb dX9_tales_235 (by decide) ?_
              refine lv_iload hx hb dX9_tales_236 (lv_at hl 4 rfl) ?_
              refine lv_ishl hx hb dX9_tales_238 ?_
              refine z_top (y := (1 : Int32) <<< ((nI k) &&& 31)) rfl ?_
              refine z_top (y := zbit k) (rfl) ?_
              refine lv_ior hx hb dX9_tales_239 ?_
              refine z_top (y := ((ztq pw pd f rt fr n cr (zopN f n) w).2.1) ||| (zbit k)) rfl ?_
              refine lv_istore (lv' := [(4, .int (((ztq pw pd f rt fr n cr (zopN f n) w).2.1) ||| (zbit k))), (3, .int (((ztq pw pd f rt fr n cr (zopN f n) w).1) + 1)), (10, .int (nI cr)), (9, .int (if zokc pw pd f rt fr n cr (zopN f n) k s = true then 1 else 0)), (8, .int (nI s)), (7, .int (nI k)), (6, .int (nI w)), (5, .int ((ztq pw pd f rt fr n cr (zopN f n) w).2.2)), (2, .int (nI (zopN f n))), (0, .ref M), (1, .int (nI c))]) hx hb dX9_tales_240 hl (by decide) rfl (fun ls hl => ?_)
              refine lv_iload hx hb dX9_tales_242 (lv_at hl 7 rfl) ?_
              refine lv_iload hx hb dX9_tales_244 (lv_at hl 4 rfl) ?_
              refine lv_iand hx hb dX9_tales_246 ?_
              refine z_top (y := ((ztq pw pd f rt fr n cr (zopN f n) w).2.2) &&& (nI s)) rfl ?_
              refine lv_istore (lv' := [(5, .int (((ztq pw pd f rt fr n cr (zopN f n) w).2.2) &&& (nI s))), (4, .int (((ztq pw pd f rt fr n cr (zopN f n) w).2.1) ||| (zbit k))), (3, .int (((ztq pw pd f rt fr n cr (zopN f n) w).1) + 1)), (10, .int (nI cr)), (9, .int (if zokc pw pd f rt fr n cr (zopN f n) k s = true then 1 else 0)), (8, .int (nI s)), (7, .int (nI k)), (6, .int (nI w)), (2, .int (nI (zopN f n))), (0, .ref M), (1, .int (nI c))]) hx hb dX9_tales_247 hl (by decide) rfl (fun ls hl => ?_)
              refine lv_iinc (v := nI (w + 1)) (lv' := [(6, .int (nI (w + 1))), (5, .int (((ztq pw pd f rt fr n cr (zopN f n) w).2.2) &&& (nI s))), (4, .int (((ztq pw pd f rt fr n cr (zopN f n) w).2.1) ||| (zbit k))), (3, .int (((ztq pw pd f rt fr n cr (zopN f n) w).1) + 1)), (10, .int (nI cr)), (9, .int (if zokc pw pd f rt fr n cr (zopN f n) k s = true then 1 else 0)), (8, .int (nI s)), (7, .int (nI k)), (2, .int (nI (zopN f n))), (0, .ref M), (1, .int (nI c))]) hx hb dX9_tales_249 hl (k := 7) rfl (z_inc _ 1) (by decide) rfl (fun ls hl => ?_)
              refine lv_goto (tgt := 92) hx hb dX9_tales_252 (by decide) ?_
              have hl : lv_has ls 12 [(6, .int (nI (w + 1))), (5, .int (((ztq pw pd f rt fr n cr (zopN f n) w).2.2) &&& (nI s))), (4, .int (((ztq pw pd f rt fr n cr (zopN f n) w).2.1) ||| (zbit k))), (3, .int (((ztq pw pd f rt fr n cr (zopN f n) w).1) + 1)), (2, .int (nI (zopN f n))), (0, .ref M), (1, .int (nI c))] := lv_sub hl [0, 1, 2, 3, 8, 9, 10] rfl
              have e_54 : ((ztq pw pd f rt fr n cr (zopN f n) w).2.2) &&& (nI s) = (ztq pw pd f rt fr n cr (zopN f n) (w + 1)).2.2 := by first | (rw [← ztq_n hke hse hyy]; done) | (rw [← ztq_y hke hse hyy]; done)
              have hl : lv_has ls 12 [(6, .int (nI (w + 1))), (5, .int ((ztq pw pd f rt fr n cr (zopN f n) (w + 1)).2.2)), (4, .int (((ztq pw pd f rt fr n cr (zopN f n) w).2.1) ||| (zbit k))), (3, .int (((ztq pw pd f rt fr n cr (zopN f n) w).1) + 1)), (2, .int (nI (zopN f n))), (0, .ref M), (1, .int (nI c))] := Eq.subst (motive := fun zz_ => lv_has ls 12 [(6, .int (nI (w + 1))), (5, .int zz_), (4, .int (((ztq pw pd f rt fr n cr (zopN f n) w).2.1) ||| (zbit k))), (3, .int (((ztq pw pd f rt fr n cr (zopN f n) w).1) + 1)), (2, .int (nI (zopN f n))), (0, .ref M), (1, .int (nI c))]) e_54 hl
              have e_55 : ((ztq pw pd f rt fr n cr (zopN f n) w).2.1) ||| (zbit k) = (ztq pw pd f rt fr n cr (zopN f n) (w + 1)).2.1 := by first | (rw [← ztq_n hke hse hyy]; done) | (rw [← ztq_y hke hse hyy]; done)
              have hl : lv_has ls 12 [(6, .int (nI (w + 1))), (5, .int ((ztq pw pd f rt fr n cr (zopN f n) (w + 1)).2.2)), (4, .int ((ztq pw pd f rt fr n cr (zopN f n) (w + 1)).2.1)), (3, .int (((ztq pw pd f rt fr n cr (zopN f n) w).1) + 1)), (2, .int (nI (zopN f n))), (0, .ref M), (1, .int (nI c))] := Eq.subst (motive := fun zz_ => lv_has ls 12 [(6, .int (nI (w + 1))), (5, .int ((ztq pw pd f rt fr n cr (zopN f n) (w + 1)).2.2)), (4, .int zz_), (3, .int (((ztq pw pd f rt fr n cr (zopN f n) w).1) + 1)), (2, .int (nI (zopN f n))), (0, .ref M), (1, .int (nI c))]) e_55 hl
              have e_56 : ((ztq pw pd f rt fr n cr (zopN f n) w).1) + 1 = (ztq pw pd f rt fr n cr (zopN f n) (w + 1)).1 := by first | (rw [← ztq_n hke hse hyy]; done) | (rw [← ztq_y hke hse hyy]; done)
              have hl : lv_has ls 12 [(6, .int (nI (w + 1))), (5, .int ((ztq pw pd f rt fr n cr (zopN f n) (w + 1)).2.2)), (4, .int ((ztq pw pd f rt fr n cr (zopN f n) (w + 1)).2.1)), (3, .int ((ztq pw pd f rt fr n cr (zopN f n) (w + 1)).1)), (2, .int (nI (zopN f n))), (0, .ref M), (1, .int (nI c))] := Eq.subst (motive := fun zz_ => lv_has ls 12 [(6, .int (nI (w + 1))), (5, .int ((ztq pw pd f rt fr n cr (zopN f n) (w + 1)).2.2)), (4, .int ((ztq pw pd f rt fr n cr (zopN f n) (w + 1)).2.1)), (3, .int zz_), (2, .int (nI (zopN f n))), (0, .ref M), (1, .int (nI c))]) e_56 hl
              exact ih_7 _ _ _ (by omega) ⟨hP, hD, hS, hl⟩
          · have c_49 := znle (i := cr) (j := i) (by omega) (by omega) c_49
            refine lv_iload hx hb dX9_tales_153 (lv_at hl 1 rfl) ?_
            refine lv_if_eq (tgt := 225) hx hb dX9_tales_155 (by decide) (fun c_57 => ?_) (fun c_57 => ?_)
            · have c_57 := zb0 c_57
              have hnz := zokc_m c_57 (d := cr) (by omega)
              have hE : (if zokc pw pd f rt fr n i (zopN f n) k s = true then 1 else 0 : Int32) = (if zokc pw pd f rt fr n cr (zopN f n) k s = true then 1 else 0) := by rw [if_neg hnz, if_neg c_57]
              have hl : lv_has ls 12 [(10, .int (nI i)), (9, .int (if zokc pw pd f rt fr n cr (zopN f n) k s = true then 1 else 0)), (8, .int (nI s)), (7, .int (nI k)), (6, .int (nI w)), (5, .int ((ztq pw pd f rt fr n cr (zopN f n) w).2.2)), (4, .int ((ztq pw pd f rt fr n cr (zopN f n) w).2.1)), (3, .int ((ztq pw pd f rt fr n cr (zopN f n) w).1)), (2, .int (nI (zopN f n))), (0, .ref M), (1, .int (nI c))] := Eq.subst (motive := fun zz_ => lv_has ls 12 [(10, .int (nI i)), (9, .int zz_), (8, .int (nI s)), (7, .int (nI k)), (6, .int (nI w)), (5, .int ((ztq pw pd f rt fr n cr (zopN f n) w).2.2)), (4, .int ((ztq pw pd f rt fr n cr (zopN f n) w).2.1)), (3, .int ((ztq pw pd f rt fr n cr (zopN f n) w).1)), (2, .int (nI (zopN f n))), (0, .ref M), (1, .int (nI c))]) hE hl
              refine lv_iload hx hb dX9_tales_225 (lv_at hl 1 rfl) ?_
              refine lv_if_eq (tgt := 249) hx hb dX9_tales_227 (by decide) (fun c_58 => ?_) (fun c_58 => ?_)
              · have c_58 := zb0 c_58
                have hyy := c_58
                refine lv_iinc (v := nI (w + 1)) (lv' := [(6, .int (nI (w + 1))), (10, .int (nI i)), (9, .int (if zokc pw pd f rt fr n cr (zopN f n) k s = true then 1 else 0)), (8, .int (nI s)), (7, .int (nI k)), (5, .int ((ztq pw pd f rt fr n cr (zopN f n) w).2.2)), (4, .int ((ztq pw pd f rt fr n cr (zopN f n) w).2.1)), (3, .int ((ztq pw pd f rt fr n cr (zopN f n) w).1)), (2, .int (nI (zopN f n))), (0, .ref M), (1, .int (nI c))]) hx hb dX9_tales_249 hl (k := 4) rfl (z_inc _ 1) (by decide) rfl (fun ls hl => ?_)
                refine lv_goto (tgt := 92) hx hb dX9_tales_252 (by decide) ?_
                have hl : lv_has ls 12 [(6, .int (nI (w + 1))), (5, .int ((ztq pw pd f rt fr n cr (zopN f n) w).2.2)), (4, .int ((ztq pw pd f rt fr n cr (zopN f n) w).2.1)), (3, .int ((ztq pw pd f rt fr n cr (zopN f n) w).1)), (2, .int (nI (zopN f n))), (0, .ref M), (1, .int (nI c))] := lv_sub hl [0, 5, 6, 7, 8, 9, 10] rfl
                have e_59 : (ztq pw pd f rt fr n cr (zopN f n) w).2.2 = (ztq pw pd f rt fr n cr (zopN f n) (w + 1)).2.2 := by first | (rw [← ztq_n hke hse hyy]; done) | (rw [← ztq_y hke hse hyy]; done)
                have hl : lv_has ls 12 [(6, .int (nI (w + 1))), (5, .int ((ztq pw pd f rt fr n cr (zopN f n) (w + 1)).2.2)), (4, .int ((ztq pw pd f rt fr n cr (zopN f n) w).2.1)), (3, .int ((ztq pw pd f rt fr n cr (zopN f n) w).1)), (2, .int (nI (zopN f n))), (0, .ref M), (1, .int (nI c))] := Eq.subst (motive := fun zz_ => lv_has ls 12 [(6, .int (nI (w + 1))), (5, .int zz_), (4, .int ((ztq pw pd f rt fr n cr (zopN f n) w).2.1)), (3, .int ((ztq pw pd f rt fr n cr (zopN f n) w).1)), (2, .int (nI (zopN f n))), (0, .ref M), (1, .int (nI c))]) e_59 hl
                have e_60 : (ztq pw pd f rt fr n cr (zopN f n) w).2.1 = (ztq pw pd f rt fr n cr (zopN f n) (w + 1)).2.1 := by first | (rw [← ztq_n hke hse hyy]; done) | (rw [← ztq_y hke hse hyy]; done)
                have hl : lv_has ls 12 [(6, .int (nI (w + 1))), (5, .int ((ztq pw pd f rt fr n cr (zopN f n) (w + 1)).2.2)), (4, .int ((ztq pw pd f rt fr n cr (zopN f n) (w + 1)).2.1)), (3, .int ((ztq pw pd f rt fr n cr (zopN f n) w).1)), (2, .int (nI (zopN f n))), (0, .ref M), (1, .int (nI c))] := Eq.subst (motive := fun zz_ => lv_has ls 12 [(6, .int (nI (w + 1))), (5, .int ((ztq pw pd f rt fr n cr (zopN f n) (w + 1)).2.2)), (4, .int zz_), (3, .int ((ztq pw pd f rt fr n cr (zopN f n) w).1)), (2, .int (nI (zopN f n))), (0, .ref M), (1, .int (nI c))]) e_60 hl
                have e_61 : (ztq pw pd f rt fr n cr (zopN f n) w).1 = (ztq pw pd f rt fr n cr (zopN f n) (w + 1)).1 := by first | (rw [← ztq_n hke hse hyy]; done) | (rw [← ztq_y hke hse hyy]; done)
                have hl : lv_has ls 12 [(6, .int (nI (w + 1))), (5, .int ((ztq pw pd f rt fr n cr (zopN f n) (w + 1)).2.2)), (4, .int ((ztq pw pd f rt fr n cr (zopN f n) (w + 1)).2.1)), (3, .int ((ztq pw pd f rt fr n cr (zopN f n) (w + 1)).1)), (2, .int (nI (zopN f n))), (0, .ref M), (1, .int (nI c))] := Eq.subst (motive := fun zz_ => lv_has ls 12 [(6, .int (nI (w + 1))), (5, .int ((ztq pw pd f rt fr n cr (zopN f n) (w + 1)).2.2)), (4, .int ((ztq pw pd f rt fr n cr (zopN f n) (w + 1)).2.1)), (3, .int zz_), (2, .int (nI (zopN f n))), (0, .ref M), (1, .int (nI c))]) e_61 hl
                exact ih_7 _ _ _ (by omega) ⟨hP, hD, hS, hl⟩
              · have c_58 := zb1 c_58
                have hyy := c_58
                refine lv_iinc (v := ((ztq pw pd f rt fr n cr (zopN f n) w).1) + 1) (lv' := [(3, .int (((ztq pw pd f rt fr n cr (zopN f n) w).1) + 1)), (10, .int (nI i)), (9, .int (if zokc pw pd f rt fr n cr (zopN f n) k s = true then 1 else 0)), (8, .int (nI s)), (7, .int (nI k)), (6, .int (nI w)), (5, .int ((ztq pw pd f rt fr n cr (zopN f n) w).2.2)), (4, .int ((ztq pw pd f rt fr n cr (zopN f n) w).2.1)), (2, .int (nI (zopN f n))), (0, .ref M), (1, .int (nI c))]) hx hb dX9_tales_230 hl (k := 7) rfl rfl (by decide) rfl (fun ls hl => ?_)
                refine lv_iload hx hb dX9_tales_233 (lv_at hl 7 rfl) ?_
                refine lv_iconst (v := nI 1) hx hb dX9_tales_235 (by decide) ?_
                refine lv_iload hx hb dX9_tales_236 (lv_at hl 4 rfl) ?_
                refine lv_ishl hx hb dX9_tales_238 ?_
                refine z_top (y := (1 : Int32) <<< ((nI k) &&& 31)) rfl ?_
                refine z_top (y := zbit k) (rfl) ?_
                refine lv_ior hx hb dX9_tales_239 ?_
                refine z_top (y := ((ztq pw pd f rt fr n cr (zopN f n) w).2.1) ||| (zbit k)) rfl ?_
                refine lv_istore (lv' := [(4, .int (((ztq pw pd f rt fr n cr (zopN f n) w).2.1) ||| (zbit k))), (3, .int (((ztq pw pd f rt fr n cr (zopN f n) w).1) + 1)), (10, .int (nI i)), (9, .int (if zokc pw pd f rt fr n cr (zopN f n) k s = true then 1 else 0)), (8, .int (nI s)), (7, .int (nI k)), (6, .int (nI w)), (5, .int ((ztq pw pd f rt fr n cr (zopN f n) w).2.2)), (2, .int (nI (zopN f n))), (0, .ref M), (1, .int (nI c))]) hx hb dX9_tales_240 hl (by decide) rfl (fun ls hl => ?_)
                refine lv_iload hx hb dX9_tales_242 (lv_at hl 7 rfl) ?_
                refine lv_iload hx hb dX9_tales_244 (lv_at hl 4 rfl) ?_
                refine lv_iand hx hb dX9_tales_246 ?_
                refine z_top (y := ((ztq pw pd f rt fr n cr (zopN f n) w).2.2) &&& (nI s)) rfl ?_
                refine lv_istore (lv' := [(5, .int (((ztq pw pd f rt fr n cr (zopN f n) w).2.2) &&& (nI s))), (4, .int (((ztq pw pd f rt fr n cr (zopN f n) w).2.1) ||| (zbit k))), (3, .int (((ztq pw pd f rt fr n cr (zopN f n) w).1) + 1)), (10, .int (nI i)), (9, .int (if zokc pw pd f rt fr n cr (zopN f n) k s = true then 1 else 0)), (8, .int (nI s)), (7, .int (nI k)), (6, .int (nI w)), (2, .int (nI (zopN f n))), (0, .ref M), (1, .int (nI c))]) hx hb dX9_tales_247 hl (by decide) rfl (fun ls hl => ?_)
                refine lv_iinc (v := nI (w + 1)) (lv' := [(6, .int (nI (w + 1))), (5, .int (((ztq pw pd f rt fr n cr (zopN f n) w).2.2) &&& (nI s))), (4, .int (((ztq pw pd f rt fr n cr (zopN f n) w).2.1) ||| (zbit k))), (3, .int (((ztq pw pd f rt fr n cr (zopN f n) w).1) + 1)), (10, .int (nI i)), (9, .int (if zokc pw pd f rt fr n cr (zopN f n) k s = true then 1 else 0)), (8, .int (nI s)), (7, .int (nI k)), (2, .int (nI (zopN f n))), (0, .ref M), (1, .int (nI c))]) hx hb dX9_tales_249 hl (k := 7) rfl (z_inc _ 1) (by decide) rfl (fun ls hl => ?_)
                refine lv_goto (tgt := 92) hx hb dX9_tales_252 (by decide) ?_
                have hl : lv_has ls 12 [(6, .int (nI (w + 1))), (5, .int (((ztq pw pd f rt fr n cr (zopN f n) w).2.2) &&& (nI s))), (4, .int (((ztq pw pd f rt fr n cr (zopN f n) w).2.1) ||| (zbit k))), (3, .int (((ztq pw pd f rt fr n cr (zopN f n) w).1) + 1)), (2, .int (nI (zopN f n))), (0, .ref M), (1, .int (nI c))] := lv_sub hl [0, 1, 2, 3, 8, 9, 10] rfl
                have e_62 : ((ztq pw pd f rt fr n cr (zopN f n) w).2.2) &&& (nI s) = (ztq pw pd f rt fr n cr (zopN f n) (w + 1)).2.2 := by first | (rw [← ztq_n hke hse hyy]; done) | (rw [← ztq_y hke hse hyy]; done)
                have hl : lv_has ls 12 [(6, .int (nI (w + 1))), (5, .int ((ztq pw pd f rt fr n cr (zopN f n) (w + 1)).2.2)), (4, .int (((ztq pw pd f rt fr n cr (zopN f n) w).2.1) ||| (zbit k))), (3, .int (((ztq pw pd f rt fr n cr (zopN f n) w).1) + 1)), (2, .int (nI (zopN f n))), (0, .ref M), (1, .int (nI c))] := Eq.subst (motive := fun zz_ => lv_has ls 12 [(6, .int (nI (w + 1))), (5, .int zz_), (4, .int (((ztq pw pd f rt fr n cr (zopN f n) w).2.1) ||| (zbit k))), (3, .int (((ztq pw pd f rt fr n cr (zopN f n) w).1) + 1)), (2, .int (nI (zopN f n))), (0, .ref M), (1, .int (nI c))]) e_62 hl
                have e_63 : ((ztq pw pd f rt fr n cr (zopN f n) w).2.1) ||| (zbit k) = (ztq pw pd f rt fr n cr (zopN f n) (w + 1)).2.1 := by first | (rw [← ztq_n hke hse hyy]; done) | (rw [← ztq_y hke hse hyy]; done)
                have hl : lv_has ls 12 [(6, .int (nI (w + 1))), (5, .int ((ztq pw pd f rt fr n cr (zopN f n) (w + 1)).2.2)), (4, .int ((ztq pw pd f rt fr n cr (zopN f n) (w + 1)).2.1)), (3, .int (((ztq pw pd f rt fr n cr (zopN f n) w).1) + 1)), (2, .int (nI (zopN f n))), (0, .ref M), (1, .int (nI c))] := Eq.subst (motive := fun zz_ => lv_has ls 12 [(6, .int (nI (w + 1))), (5, .int ((ztq pw pd f rt fr n cr (zopN f n) (w + 1)).2.2)), (4, .int zz_), (3, .int (((ztq pw pd f rt fr n cr (zopN f n) w).1) + 1)), (2, .int (nI (zopN f n))), (0, .ref M), (1, .int (nI c))]) e_63 hl
                have e_64 : ((ztq pw pd f rt fr n cr (zopN f n) w).1) + 1 = (ztq pw pd f rt fr n cr (zopN f n) (w + 1)).1 := by first | (rw [← ztq_n hke hse hyy]; done) | (rw [← ztq_y hke hse hyy]; done)
                have hl : lv_has ls 12 [(6, .int (nI (w + 1))), (5, .int ((ztq pw pd f rt fr n cr (zopN f n) (w + 1)).2.2)), (4, .int ((ztq pw pd f rt fr n cr (zopN f n) (w + 1)).2.1)), (3, .int ((ztq pw pd f rt fr n cr (zopN f n) (w + 1)).1)), (2, .int (nI (zopN f n))), (0, .ref M), (1, .int (nI c))] := Eq.subst (motive := fun zz_ => lv_has ls 12 [(6, .int (nI (w + 1))), (5, .int ((ztq pw pd f rt fr n cr (zopN f n) (w + 1)).2.2)), (4, .int ((ztq pw pd f rt fr n cr (zopN f n) (w + 1)).2.1)), (3, .int zz_), (2, .int (nI (zopN f n))), (0, .ref M), (1, .int (nI c))]) e_64 hl
                exact ih_7 _ _ _ (by omega) ⟨hP, hD, hS, hl⟩
            · have c_57 := zb1 c_57
              have hok := c_57
              obtain ⟨a, ha5, ha⟩ := hpw i (by omega)
              refine lv_aload_n hx hb dX9_tales_158 rfl (lv_at hl 9 rfl) ?_
              refine z_get (ci := 9) (v := .ref mrw) Z zin9 hP 0 rfl rfl 27 (by decide) zm704 rfl rfl dX9_tales_159 ?_
              refine lv_iload hx hb dX9_tales_162 (lv_at hl 0 rfl) ?_
              refine z_iald (n := 6) (f := pw) (j := i) Z hP 2 rfl (by omega) (by decide) dX9_tales_164 ?_
              refine z_top (y := nI a) (ha) ?_
              refine lv_istore (lv' := [(11, .int (nI a)), (10, .int (nI i)), (9, .int (if zokc pw pd f rt fr n i (zopN f n) k s = true then 1 else 0)), (8, .int (nI s)), (7, .int (nI k)), (6, .int (nI w)), (5, .int ((ztq pw pd f rt fr n cr (zopN f n) w).2.2)), (4, .int ((ztq pw pd f rt fr n cr (zopN f n) w).2.1)), (3, .int ((ztq pw pd f rt fr n cr (zopN f n) w).1)), (2, .int (nI (zopN f n))), (0, .ref M), (1, .int (nI c))]) hx hb dX9_tales_165 hl (by decide) rfl (fun ls hl => ?_)
              refine lv_iload hx hb dX9_tales_167 (lv_at hl 0 rfl) ?_
              refine lv_aload_n hx hb dX9_tales_169 rfl (lv_at hl 10 rfl) ?_
              refine z_get (ci := 9) (v := .int (nI n)) Z zin9 hP 0 rfl rfl 8 (by decide) zm685 rfl rfl dX9_tales_170 ?_
              refine lv_icmp_ge (tgt := 212) hx hb dX9_tales_173 (by decide) (fun c_65 => ?_) (fun c_65 => ?_)
              · have c_65 := zle (i := n) (j := a) (by omega) (by omega) c_65
                refine lv_iconst (v := nI 1) hx hb dX9_tales_212 (by decide) ?_
                refine lv_goto (tgt := 217) hx hb dX9_tales_213 (by decide) ?_
                refine lv_istore (lv' := [(9, .int (nI 1)), (11, .int (nI a)), (10, .int (nI i)), (8, .int (nI s)), (7, .int (nI k)), (6, .int (nI w)), (5, .int ((ztq pw pd f rt fr n cr (zopN f n) w).2.2)), (4, .int ((ztq pw pd f rt fr n cr (zopN f n) w).2.1)), (3, .int ((ztq pw pd f rt fr n cr (zopN f n) w).1)), (2, .int (nI (zopN f n))), (0, .ref M), (1, .int (nI c))]) hx hb dX9_tales_217 hl (by decide) rfl (fun ls hl => ?_)
                refine lv_iinc (v := nI (i + 1)) (lv' := [(10, .int (nI (i + 1))), (9, .int (nI 1)), (11, .int (nI a)), (8, .int (nI s)), (7, .int (nI k)), (6, .int (nI w)), (5, .int ((ztq pw pd f rt fr n cr (zopN f n) w).2.2)), (4, .int ((ztq pw pd f rt fr n cr (zopN f n) w).2.1)), (3, .int ((ztq pw pd f rt fr n cr (zopN f n) w).1)), (2, .int (nI (zopN f n))), (0, .ref M), (1, .int (nI c))]) hx hb dX9_tales_219 hl (k := 2) rfl (z_inc _ 1) (by decide) rfl (fun ls hl => ?_)
                refine lv_goto (tgt := 144) hx hb dX9_tales_222 (by decide) ?_
                have hl : lv_has ls 12 [(10, .int (nI (i + 1))), (9, .int (nI 1)), (8, .int (nI s)), (7, .int (nI k)), (6, .int (nI w)), (5, .int ((ztq pw pd f rt fr n cr (zopN f n) w).2.2)), (4, .int ((ztq pw pd f rt fr n cr (zopN f n) w).2.1)), (3, .int ((ztq pw pd f rt fr n cr (zopN f n) w).1)), (2, .int (nI (zopN f n))), (0, .ref M), (1, .int (nI c))] := lv_sub hl [0, 1, 3, 4, 5, 6, 7, 8, 9, 10, 11] rfl
                have e_66 : nI 1 = (if zokc pw pd f rt fr n (i + 1) (zopN f n) k s = true then 1 else 0) := by first | (rw [if_pos (zokc_t hok (zfi_x ha (by omega) (by omega) hn))]; rfl) | (rw [if_pos (zokc_t hok (zfi_t ha (by omega) hn (by assumption) (by assumption)))]; rfl) | (rw [if_pos (zokc_t hok (zfi_t2 ha (by omega) hn (by assumption) (by assumption)))]; rfl) | (rw [if_neg (zokc_f (zfi_f ha (by omega) hn (by assumption) (by assumption)))]; rfl) | (rw [if_neg (zokc_f (zfi_f2 ha (by omega) hn (by assumption) (by assumption)))]; rfl)
                have hl : lv_has ls 12 [(10, .int (nI (i + 1))), (9, .int (if zokc pw pd f rt fr n (i + 1) (zopN f n) k s = true then 1 else 0)), (8, .int (nI s)), (7, .int (nI k)), (6, .int (nI w)), (5, .int ((ztq pw pd f rt fr n cr (zopN f n) w).2.2)), (4, .int ((ztq pw pd f rt fr n cr (zopN f n) w).2.1)), (3, .int ((ztq pw pd f rt fr n cr (zopN f n) w).1)), (2, .int (nI (zopN f n))), (0, .ref M), (1, .int (nI c))] := Eq.subst (motive := fun zz_ => lv_has ls 12 [(10, .int (nI (i + 1))), (9, .int zz_), (8, .int (nI s)), (7, .int (nI k)), (6, .int (nI w)), (5, .int ((ztq pw pd f rt fr n cr (zopN f n) w).2.2)), (4, .int ((ztq pw pd f rt fr n cr (zopN f n) w).2.1)), (3, .int ((ztq pw pd f rt fr n cr (zopN f n) w).1)), (2, .int (nI (zopN f n))), (0, .ref M), (1, .int (nI c))]) e_66 hl
                exact ih_47 _ _ _ (by omega) ⟨hP, hD, hS, hl⟩
              · have c_65 := znle (i := n) (j := a) (by omega) (by omega) c_65
                refine lv_aload_n hx hb dX9_tales_176 rfl (lv_at hl 10 rfl) ?_
                refine z_get (ci := 9) (v := .ref mrd) Z zin9 hP 0 rfl rfl 28 (by decide) zm705 rfl rfl dX9_tales_177 ?_
                refine lv_iload hx hb dX9_tales_180 (lv_at hl 1 rfl) ?_
                refine z_iald (n := 6) (f := pd) (j := i) Z hP 3 rfl (by omega) (by decide) dX9_tales_182 ?_
                refine lv_iload hx hb dX9_tales_183 (lv_at hl 3 rfl) ?_
                refine lv_iload hx hb dX9_tales_185 (lv_at hl 0 rfl) ?_
                refine z_callSi (As := [.int (nI s), .int (nI a)]) (rest := [.int (pd i)]) Z hP hD hS hl.1 (zc_X9_has l D cI cZ (nI s) a (by omega)) zm779 zm780 zm39 zm781 zd_X9_has ⟨Nat.le_of_ble_eq_true rfl, Nat.le_of_ble_eq_true rfl⟩ ⟨Nat.zero_le _, Nat.zero_le _⟩ [] rfl (by decide) (fun _ => rfl) rfl (Nat.le_of_ble_eq_true rfl) rfl dX9_tales_187 (fun r_67 u H locs h_68 hP hD hS => ?_)
                have hP : va_P D vwCl [(M, .inr (9, [.int (nI 0), .ref mtx, .int (nI len), .int (nI pl), .int rt, .int fr, .int pr, .ref mod_, .int (nI n), .ref mne, .ref mro, .int (nI m), .int rrt, .int rfr, .int rpr, .ref mrod, .int (nI rn9), .ref mrne, .ref mrro, .int (nI rm9), .ref mrp, .ref mpg, .ref mbk, .int (nI ac), .ref mke, .ref mik, .int (nI cr), .ref mrw, .ref mrd, .long sd, .ref mtr, .ref mwo, .ref mnx, .int jr])), (mpg, .inl (cI, 36, .inl g)), (mrw, .inl (cI, 6, .inl pw)), (mrd, .inl (cI, 6, .inl pd))] H := hP
                have hD : va_D A [(M, .inr (9, [.int (nI 0), .ref mtx, .int (nI len), .int (nI pl), .int rt, .int fr, .int pr, .ref mod_, .int (nI n), .ref mne, .ref mro, .int (nI m), .int rrt, .int rfr, .int rpr, .ref mrod, .int (nI rn9), .ref mrne, .ref mrro, .int (nI rm9), .ref mrp, .ref mpg, .ref mbk, .int (nI ac), .ref mke, .ref mik, .int (nI cr), .ref mrw, .ref mrd, .long sd, .ref mtr, .ref mwo, .ref mnx, .int jr])), (mpg, .inl (cI, 36, .inl g)), (mrw, .inl (cI, 6, .inl pw)), (mrd, .inl (cI, 6, .inl pd))] := hD
                have h_68 : r_67 = if zin (nI s) a then 1 else 0 := h_68
                subst h_68
                refine lv_if_eq (tgt := 197) hx hb dX9_tales_190 (by decide) (fun c_69 => ?_) (fun c_69 => ?_)
                · have c_69 := zb0 c_69
                  refine lv_aload_n hx hb dX9_tales_197 rfl (lv_at hl 10 rfl) ?_
                  refine lv_aload_n hx hb dX9_tales_198 rfl (lv_at hl 10 rfl) ?_
                  refine z_get (ci := 9) (v := .ref mpg) Z zin9 hP 0 rfl rfl 21 (by decide) zm698 rfl rfl dX9_tales_199 ?_
                  refine lv_iload hx hb dX9_tales_202 (lv_at hl 0 rfl) ?_
                  refine lv_iload hx hb dX9_tales_204 (lv_at hl 4 rfl) ?_
                  refine z_callVi (As := [.ref mpg, .int (nI a), .int (nI k)]) (rest := [.int (pd i)]) (ci := 9) (k0 := 0) Z hP hD hS hl.1 (zc_X9_taxOf l D cI cZ M (nI 0) mtx len pl rt fr pr mod_ n mne mro m rrt rfr rpr mrod rn9 mrne mrro rm9 mrp mpg mbk ac mke mik cr mrw mrd sd mtr mwo mnx jr mpg g f a k (by first | omega | exact hpg.1 a (by omega)) (by first | omega | exact hpg.1 a (by omega)) (by first | omega | exact hpg.1 a (by omega))) zm823 zm824 zm22 zm39 zm825 ⟨rfl, zd_X9_taxOf⟩ ⟨Nat.le_of_ble_eq_true rfl, Nat.le_of_ble_eq_true rfl⟩ ⟨Nat.zero_le _, Nat.zero_le _⟩ [0, 1] rfl (by decide) rfl rfl rfl (fun _ => rfl) rfl (Nat.le_of_ble_eq_true rfl) rfl dX9_tales_206 (fun r_70 u H locs h_71 hP hD hS => ?_)
                  have hP : va_P D vwCl [(M, .inr (9, [.int (nI 0), .ref mtx, .int (nI len), .int (nI pl), .int rt, .int fr, .int pr, .ref mod_, .int (nI n), .ref mne, .ref mro, .int (nI m), .int rrt, .int rfr, .int rpr, .ref mrod, .int (nI rn9), .ref mrne, .ref mrro, .int (nI rm9), .ref mrp, .ref mpg, .ref mbk, .int (nI ac), .ref mke, .ref mik, .int (nI cr), .ref mrw, .ref mrd, .long sd, .ref mtr, .ref mwo, .ref mnx, .int jr])), (mpg, .inl (cI, 36, .inl g)), (mrw, .inl (cI, 6, .inl pw)), (mrd, .inl (cI, 6, .inl pd))] H := hP
                  have hD : va_D A [(M, .inr (9, [.int (nI 0), .ref mtx, .int (nI len), .int (nI pl), .int rt, .int fr, .int pr, .ref mod_, .int (nI n), .ref mne, .ref mro, .int (nI m), .int rrt, .int rfr, .int rpr, .ref mrod, .int (nI rn9), .ref mrne, .ref mrro, .int (nI rm9), .ref mrp, .ref mpg, .ref mbk, .int (nI ac), .ref mke, .ref mik, .int (nI cr), .ref mrw, .ref mrd, .long sd, .ref mtr, .ref mwo, .ref mnx, .int jr])), (mpg, .inl (cI, 36, .inl g)), (mrw, .inl (cI, 6, .inl pw)), (mrd, .inl (cI, 6, .inl pd))] := hD
                  have h_71 : r_70 = ztax f rt fr a k := h_71
                  subst h_71
                  refine lv_icmp_ne (tgt := 216) hx hb dX9_tales_209 (by decide) (fun c_72 => ?_) (fun c_72 => ?_)
                  · have c_72 : ¬ ((pd i) = (ztax f rt fr a k)) := c_72
                    refine lv_iconst (v := nI 0) hx hb dX9_tales_216 (by decide) ?_
                    refine lv_istore (lv' := [(9, .int (nI 0)), (11, .int (nI a)), (10, .int (nI i)), (8, .int (nI s)), (7, .int (nI k)), (6, .int (nI w)), (5, .int ((ztq pw pd f rt fr n cr (zopN f n) w).2.2)), (4, .int ((ztq pw pd f rt fr n cr (zopN f n) w).2.1)), (3, .int ((ztq pw pd f rt fr n cr (zopN f n) w).1)), (2, .int (nI (zopN f n))), (0, .ref M), (1, .int (nI c))]) hx hb dX9_tales_217 hl (by decide) rfl (fun ls hl => ?_)
                    refine lv_iinc (v := nI (i + 1)) (lv' := [(10, .int (nI (i + 1))), (9, .int (nI 0)), (11, .int (nI a)), (8, .int (nI s)), (7, .int (nI k)), (6, .int (nI w)), (5, .int ((ztq pw pd f rt fr n cr (zopN f n) w).2.2)), (4, .int ((ztq pw pd f rt fr n cr (zopN f n) w).2.1)), (3, .int ((ztq pw pd f rt fr n cr (zopN f n) w).1)), (2, .int (nI (zopN f n))), (0, .ref M), (1, .int (nI c))]) hx hb dX9_tales_219 hl (k := 2) rfl (z_inc _ 1) (by decide) rfl (fun ls hl => ?_)
                    refine lv_goto (tgt := 144) hx hb dX9_tales_222 (by decide) ?_
                    have hl : lv_has ls 12 [(10, .int (nI (i + 1))), (9, .int (nI 0)), (8, .int (nI s)), (7, .int (nI k)), (6, .int (nI w)), (5, .int ((ztq pw pd f rt fr n cr (zopN f n) w).2.2)), (4, .int ((ztq pw pd f rt fr n cr (zopN f n) w).2.1)), (3, .int ((ztq pw pd f rt fr n cr (zopN f n) w).1)), (2, .int (nI (zopN f n))), (0, .ref M), (1, .int (nI c))] := lv_sub hl [0, 1, 3, 4, 5, 6, 7, 8, 9, 10, 11] rfl
                    have e_73 : nI 0 = (if zokc pw pd f rt fr n (i + 1) (zopN f n) k s = true then 1 else 0) := by first | (rw [if_pos (zokc_t hok (zfi_x ha (by omega) (by omega) hn))]; rfl) | (rw [if_pos (zokc_t hok (zfi_t ha (by omega) hn (by assumption) (by assumption)))]; rfl) | (rw [if_pos (zokc_t hok (zfi_t2 ha (by omega) hn (by assumption) (by assumption)))]; rfl) | (rw [if_neg (zokc_f (zfi_f ha (by omega) hn (by assumption) (by assumption)))]; rfl) | (rw [if_neg (zokc_f (zfi_f2 ha (by omega) hn (by assumption) (by assumption)))]; rfl)
                    have hl : lv_has ls 12 [(10, .int (nI (i + 1))), (9, .int (if zokc pw pd f rt fr n (i + 1) (zopN f n) k s = true then 1 else 0)), (8, .int (nI s)), (7, .int (nI k)), (6, .int (nI w)), (5, .int ((ztq pw pd f rt fr n cr (zopN f n) w).2.2)), (4, .int ((ztq pw pd f rt fr n cr (zopN f n) w).2.1)), (3, .int ((ztq pw pd f rt fr n cr (zopN f n) w).1)), (2, .int (nI (zopN f n))), (0, .ref M), (1, .int (nI c))] := Eq.subst (motive := fun zz_ => lv_has ls 12 [(10, .int (nI (i + 1))), (9, .int zz_), (8, .int (nI s)), (7, .int (nI k)), (6, .int (nI w)), (5, .int ((ztq pw pd f rt fr n cr (zopN f n) w).2.2)), (4, .int ((ztq pw pd f rt fr n cr (zopN f n) w).2.1)), (3, .int ((ztq pw pd f rt fr n cr (zopN f n) w).1)), (2, .int (nI (zopN f n))), (0, .ref M), (1, .int (nI c))]) e_73 hl
                    exact ih_47 _ _ _ (by omega) ⟨hP, hD, hS, hl⟩
                  · have c_72 : (pd i) = (ztax f rt fr a k) := c_72
                    refine lv_iconst (v := nI 1) hx hb dX9_tales_212 (by decide) ?_
                    refine lv_goto (tgt := 217) hx hb dX9_tales_213 (by decide) ?_
                    refine lv_istore (lv' := [(9, .int (nI 1)), (11, .int (nI a)), (10, .int (nI i)), (8, .int (nI s)), (7, .int (nI k)), (6, .int (nI w)), (5, .int ((ztq pw pd f rt fr n cr (zopN f n) w).2.2)), (4, .int ((ztq pw pd f rt fr n cr (zopN f n) w).2.1)), (3, .int ((ztq pw pd f rt fr n cr (zopN f n) w).1)), (2, .int (nI (zopN f n))), (0, .ref M), (1, .int (nI c))]) hx hb dX9_tales_217 hl (by decide) rfl (fun ls hl => ?_)
                    refine lv_iinc (v := nI (i + 1)) (lv' := [(10, .int (nI (i + 1))), (9, .int (nI 1)), (11, .int (nI a)), (8, .int (nI s)), (7, .int (nI k)), (6, .int (nI w)), (5, .int ((ztq pw pd f rt fr n cr (zopN f n) w).2.2)), (4, .int ((ztq pw pd f rt fr n cr (zopN f n) w).2.1)), (3, .int ((ztq pw pd f rt fr n cr (zopN f n) w).1)), (2, .int (nI (zopN f n))), (0, .ref M), (1, .int (nI c))]) hx hb dX9_tales_219 hl (k := 2) rfl (z_inc _ 1) (by decide) rfl (fun ls hl => ?_)
                    refine lv_goto (tgt := 144) hx hb dX9_tales_222 (by decide) ?_
                    have hl : lv_has ls 12 [(10, .int (nI (i + 1))), (9, .int (nI 1)), (8, .int (nI s)), (7, .int (nI k)), (6, .int (nI w)), (5, .int ((ztq pw pd f rt fr n cr (zopN f n) w).2.2)), (4, .int ((ztq pw pd f rt fr n cr (zopN f n) w).2.1)), (3, .int ((ztq pw pd f rt fr n cr (zopN f n) w).1)), (2, .int (nI (zopN f n))), (0, .ref M), (1, .int (nI c))] := lv_sub hl [0, 1, 3, 4, 5, 6, 7, 8, 9, 10, 11] rfl
                    have e_74 : nI 1 = (if zokc pw pd f rt fr n (i + 1) (zopN f n) k s = true then 1 else 0) := by first | (rw [if_pos (zokc_t hok (zfi_x ha (by omega) (by omega) hn))]; rfl) | (rw [if_pos (zokc_t hok (zfi_t ha (by omega) hn (by assumption) (by assumption)))]; rfl) | (rw [if_pos (zokc_t hok (zfi_t2 ha (by omega) hn (by assumption) (by assumption)))]; rfl) | (rw [if_neg (zokc_f (zfi_f ha (by omega) hn (by assumption) (by assumption)))]; rfl) | (rw [if_neg (zokc_f (zfi_f2 ha (by omega) hn (by assumption) (by assumption)))]; rfl)
                    have hl : lv_has ls 12 [(10, .int (nI (i + 1))), (9, .int (if zokc pw pd f rt fr n (i + 1) (zopN f n) k s = true then 1 else 0)), (8, .int (nI s)), (7, .int (nI k)), (6, .int (nI w)), (5, .int ((ztq pw pd f rt fr n cr (zopN f n) w).2.2)), (4, .int ((ztq pw pd f rt fr n cr (zopN f n) w).2.1)), (3, .int ((ztq pw pd f rt fr n cr (zopN f n) w).1)), (2, .int (nI (zopN f n))), (0, .ref M), (1, .int (nI c))] := Eq.subst (motive := fun zz_ => lv_has ls 12 [(10, .int (nI (i + 1))), (9, .int zz_), (8, .int (nI s)), (7, .int (nI k)), (6, .int (nI w)), (5, .int ((ztq pw pd f rt fr n cr (zopN f n) w).2.2)), (4, .int ((ztq pw pd f rt fr n cr (zopN f n) w).2.1)), (3, .int ((ztq pw pd f rt fr n cr (zopN f n) w).1)), (2, .int (nI (zopN f n))), (0, .ref M), (1, .int (nI c))]) e_74 hl
                    exact ih_47 _ _ _ (by omega) ⟨hP, hD, hS, hl⟩
                · have c_69 := zb1 c_69
                  refine lv_iconst (v := nI 0) hx hb dX9_tales_193 (by decide) ?_
                  refine lv_goto (tgt := 209) hx hb dX9_tales_194 (by decide) ?_
                  refine lv_icmp_ne (tgt := 216) hx hb dX9_tales_209 (by decide) (fun c_75 => ?_) (fun c_75 => ?_)
                  · have c_75 : ¬ ((pd i) = 0) := c_75
                    refine lv_iconst (v := nI 0) hx hb dX9_tales_216 (by decide) ?_
                    refine lv_istore (lv' := [(9, .int (nI 0)), (11, .int (nI a)), (10, .int (nI i)), (8, .int (nI s)), (7, .int (nI k)), (6, .int (nI w)), (5, .int ((ztq pw pd f rt fr n cr (zopN f n) w).2.2)), (4, .int ((ztq pw pd f rt fr n cr (zopN f n) w).2.1)), (3, .int ((ztq pw pd f rt fr n cr (zopN f n) w).1)), (2, .int (nI (zopN f n))), (0, .ref M), (1, .int (nI c))]) hx hb dX9_tales_217 hl (by decide) rfl (fun ls hl => ?_)
                    refine lv_iinc (v := nI (i + 1)) (lv' := [(10, .int (nI (i + 1))), (9, .int (nI 0)), (11, .int (nI a)), (8, .int (nI s)), (7, .int (nI k)), (6, .int (nI w)), (5, .int ((ztq pw pd f rt fr n cr (zopN f n) w).2.2)), (4, .int ((ztq pw pd f rt fr n cr (zopN f n) w).2.1)), (3, .int ((ztq pw pd f rt fr n cr (zopN f n) w).1)), (2, .int (nI (zopN f n))), (0, .ref M), (1, .int (nI c))]) hx hb dX9_tales_219 hl (k := 2) rfl (z_inc _ 1) (by decide) rfl (fun ls hl => ?_)
                    refine lv_goto (tgt := 144) hx hb dX9_tales_222 (by decide) ?_
                    have hl : lv_has ls 12 [(10, .int (nI (i + 1))), (9, .int (nI 0)), (8, .int (nI s)), (7, .int (nI k)), (6, .int (nI w)), (5, .int ((ztq pw pd f rt fr n cr (zopN f n) w).2.2)), (4, .int ((ztq pw pd f rt fr n cr (zopN f n) w).2.1)), (3, .int ((ztq pw pd f rt fr n cr (zopN f n) w).1)), (2, .int (nI (zopN f n))), (0, .ref M), (1, .int (nI c))] := lv_sub hl [0, 1, 3, 4, 5, 6, 7, 8, 9, 10, 11] rfl
                    have e_76 : nI 0 = (if zokc pw pd f rt fr n (i + 1) (zopN f n) k s = true then 1 else 0) := by first | (rw [if_pos (zokc_t hok (zfi_x ha (by omega) (by omega) hn))]; rfl) | (rw [if_pos (zokc_t hok (zfi_t ha (by omega) hn (by assumption) (by assumption)))]; rfl) | (rw [if_pos (zokc_t hok (zfi_t2 ha (by omega) hn (by assumption) (by assumption)))]; rfl) | (rw [if_neg (zokc_f (zfi_f ha (by omega) hn (by assumption) (by assumption)))]; rfl) | (rw [if_neg (zokc_f (zfi_f2 ha (by omega) hn (by assumption) (by assumption)))]; rfl)
                    have hl : lv_has ls 12 [(10, .int (nI (i + 1))), (9, .int (if zokc pw pd f rt fr n (i + 1) (zopN f n) k s = true then 1 else 0)), (8, .int (nI s)), (7, .int (nI k)), (6, .int (nI w)), (5, .int ((ztq pw pd f rt fr n cr (zopN f n) w).2.2)), (4, .int ((ztq pw pd f rt fr n cr (zopN f n) w).2.1)), (3, .int ((ztq pw pd f rt fr n cr (zopN f n) w).1)), (2, .int (nI (zopN f n))), (0, .ref M), (1, .int (nI c))] := Eq.subst (motive := fun zz_ => lv_has ls 12 [(10, .int (nI (i + 1))), (9, .int zz_), (8, .int (nI s)), (7, .int (nI k)), (6, .int (nI w)), (5, .int ((ztq pw pd f rt fr n cr (zopN f n) w).2.2)), (4, .int ((ztq pw pd f rt fr n cr (zopN f n) w).2.1)), (3, .int ((ztq pw pd f rt fr n cr (zopN f n) w).1)), (2, .int (nI (zopN f n))), (0, .ref M), (1, .int (nI c))]) e_76 hl
                    exact ih_47 _ _ _ (by omega) ⟨hP, hD, hS, hl⟩
                  · have c_75 : (pd i) = 0 := c_75
                    refine lv_iconst (v := nI 1) hx hb dX9_tales_212 (by decide) ?_
                    refine lv_goto (tgt := 217) hx hb dX9_tales_213 (by decide) ?_
                    refine lv_istore (lv' := [(9, .int (nI 1)), (11, .int (nI a)), (10, .int (nI i)), (8, .int (nI s)), (7, .int (nI k)), (6, .int (nI w)), (5, .int ((ztq pw pd f rt fr n cr (zopN f n) w).2.2)), (4, .int ((ztq pw pd f rt fr n cr (zopN f n) w).2.1)), (3, .int ((ztq pw pd f rt fr n cr (zopN f n) w).1)), (2, .int (nI (zopN f n))), (0, .ref M), (1, .int (nI c))]) hx hb dX9_tales_217 hl (by decide) rfl (fun ls hl => ?_)
                    refine lv_iinc (v := nI (i + 1)) (lv' := [(10, .int (nI (i + 1))), (9, .int (nI 1)), (11, .int (nI a)), (8, .int (nI s)), (7, .int (nI k)), (6, .int (nI w)), (5, .int ((ztq pw pd f rt fr n cr (zopN f n) w).2.2)), (4, .int ((ztq pw pd f rt fr n cr (zopN f n) w).2.1)), (3, .int ((ztq pw pd f rt fr n cr (zopN f n) w).1)), (2, .int (nI (zopN f n))), (0, .ref M), (1, .int (nI c))]) hx hb dX9_tales_219 hl (k := 2) rfl (z_inc _ 1) (by decide) rfl (fun ls hl => ?_)
                    refine lv_goto (tgt := 144) hx hb dX9_tales_222 (by decide) ?_
                    have hl : lv_has ls 12 [(10, .int (nI (i + 1))), (9, .int (nI 1)), (8, .int (nI s)), (7, .int (nI k)), (6, .int (nI w)), (5, .int ((ztq pw pd f rt fr n cr (zopN f n) w).2.2)), (4, .int ((ztq pw pd f rt fr n cr (zopN f n) w).2.1)), (3, .int ((ztq pw pd f rt fr n cr (zopN f n) w).1)), (2, .int (nI (zopN f n))), (0, .ref M), (1, .int (nI c))] := lv_sub hl [0, 1, 3, 4, 5, 6, 7, 8, 9, 10, 11] rfl
                    have e_77 : nI 1 = (if zokc pw pd f rt fr n (i + 1) (zopN f n) k s = true then 1 else 0) := by first | (rw [if_pos (zokc_t hok (zfi_x ha (by omega) (by omega) hn))]; rfl) | (rw [if_pos (zokc_t hok (zfi_t ha (by omega) hn (by assumption) (by assumption)))]; rfl) | (rw [if_pos (zokc_t hok (zfi_t2 ha (by omega) hn (by assumption) (by assumption)))]; rfl) | (rw [if_neg (zokc_f (zfi_f ha (by omega) hn (by assumption) (by assumption)))]; rfl) | (rw [if_neg (zokc_f (zfi_f2 ha (by omega) hn (by assumption) (by assumption)))]; rfl)
                    have hl : lv_has ls 12 [(10, .int (nI (i + 1))), (9, .int (if zokc pw pd f rt fr n (i + 1) (zopN f n) k s = true then 1 else 0)), (8, .int (nI s)), (7, .int (nI k)), (6, .int (nI w)), (5, .int ((ztq pw pd f rt fr n cr (zopN f n) w).2.2)), (4, .int ((ztq pw pd f rt fr n cr (zopN f n) w).2.1)), (3, .int ((ztq pw pd f rt fr n cr (zopN f n) w).1)), (2, .int (nI (zopN f n))), (0, .ref M), (1, .int (nI c))] := Eq.subst (motive := fun zz_ => lv_has ls 12 [(10, .int (nI (i + 1))), (9, .int zz_), (8, .int (nI s)), (7, .int (nI k)), (6, .int (nI w)), (5, .int ((ztq pw pd f rt fr n cr (zopN f n) w).2.2)), (4, .int ((ztq pw pd f rt fr n cr (zopN f n) w).2.1)), (3, .int ((ztq pw pd f rt fr n cr (zopN f n) w).1)), (2, .int (nI (zopN f n))), (0, .ref M), (1, .int (nI c))]) e_77 hl
                    exact ih_47 _ _ _ (by omega) ⟨hP, hD, hS, hl⟩
    · have c_6 := znle (i := n) (j := i) (by omega) (by omega) c_6
      refine lv_iload_n hx hb dX9_tales_32 rfl (lv_at hl 1 rfl) ?_
      refine lv_aload_n hx hb dX9_tales_33 rfl (lv_at hl 2 rfl) ?_
      refine z_get (ci := 9) (v := .ref mpg) Z zin9 hP 0 rfl rfl 21 (by decide) zm698 rfl rfl dX9_tales_34 ?_
      refine lv_bipush (v := nI 7) hx hb dX9_tales_37 (by decide) ?_
      refine lv_iload_n hx hb dX9_tales_39 rfl (lv_at hl 0 rfl) ?_
      refine lv_imul hx hb dX9_tales_40 ?_
      refine z_top (y := nI (7 * i)) (z_mul _ _) ?_
      refine lv_iconst (v := nI 5) hx hb dX9_tales_41 (by decide) ?_
      refine lv_iadd hx hb dX9_tales_42 ?_
      refine z_top (y := nI (7 * i + 5)) (z_add _ _) ?_
      refine z_iald (n := 36) (f := g) (j := 7 * i + 5) Z hP 1 rfl (by omega) (by decide) dX9_tales_43 ?_
      refine z_top (y := f (25 + i)) ((hpg.1 i (by omega)).2.2.1) ?_
      refine lv_bipush (v := -9) hx hb dX9_tales_44 (by decide) ?_
      refine lv_icmp_ne (tgt := 72) hx hb dX9_tales_46 (by decide) (fun c_78 => ?_) (fun c_78 => ?_)
      · have c_78 : ¬ ((f (25 + i)) = (-9)) := c_78
        refine lv_iconst (v := nI 0) hx hb dX9_tales_72 (by decide) ?_
        refine lv_ior hx hb dX9_tales_73 ?_
        refine z_top (y := (zop f i) ||| 0) rfl ?_
        refine lv_istore_n (lv' := [(2, .int ((zop f i) ||| 0)), (3, .int (nI i)), (0, .ref M), (1, .int (nI c))]) hx hb dX9_tales_74 rfl hl (by decide) rfl (fun ls hl => ?_)
        refine lv_iinc (v := nI (i + 1)) (lv' := [(3, .int (nI (i + 1))), (2, .int ((zop f i) ||| 0)), (0, .ref M), (1, .int (nI c))]) hx hb dX9_tales_75 hl (k := 1) rfl (z_inc _ 1) (by decide) rfl (fun ls hl => ?_)
        refine lv_goto (tgt := 24) hx hb dX9_tales_78 (by decide) ?_
        have hl : lv_has ls 12 [(3, .int (nI (i + 1))), (2, .int ((zop f i) ||| 0)), (0, .ref M), (1, .int (nI c))] := lv_sub hl [0, 1, 2, 3] rfl
        have e_79 : (zop f i) ||| 0 = zop f (i + 1) := by first | exact zop_y (by assumption) (by assumption) | exact zop_n (fun z => absurd z.1 (by assumption)) | exact zop_n (fun z => absurd z.2 (by assumption))
        have hl : lv_has ls 12 [(3, .int (nI (i + 1))), (2, .int (zop f (i + 1))), (0, .ref M), (1, .int (nI c))] := Eq.subst (motive := fun zz_ => lv_has ls 12 [(3, .int (nI (i + 1))), (2, .int zz_), (0, .ref M), (1, .int (nI c))]) e_79 hl
        exact ih_4 _ _ _ (by omega) ⟨hP, hD, hS, hl⟩
      · have c_78 : (f (25 + i)) = (-9) := c_78
        refine lv_aload_n hx hb dX9_tales_49 rfl (lv_at hl 2 rfl) ?_
        refine z_get (ci := 9) (v := .ref mpg) Z zin9 hP 0 rfl rfl 21 (by decide) zm698 rfl rfl dX9_tales_50 ?_
        refine lv_bipush (v := nI 7) hx hb dX9_tales_53 (by decide) ?_
        refine lv_iload_n hx hb dX9_tales_55 rfl (lv_at hl 0 rfl) ?_
        refine lv_imul hx hb dX9_tales_56 ?_
        refine z_top (y := nI (7 * i)) (z_mul _ _) ?_
        refine lv_bipush (v := nI 6) hx hb dX9_tales_57 (by decide) ?_
        refine lv_iadd hx hb dX9_tales_59 ?_
        refine z_top (y := nI (7 * i + 6)) (z_add _ _) ?_
        refine z_iald (n := 36) (f := g) (j := 7 * i + 6) Z hP 1 rfl (by omega) (by decide) dX9_tales_60 ?_
        refine z_top (y := f (30 + i)) ((hpg.1 i (by omega)).2.2.2) ?_
        refine lv_bipush (v := -9) hx hb dX9_tales_61 (by decide) ?_
        refine lv_icmp_ne (tgt := 72) hx hb dX9_tales_63 (by decide) (fun c_80 => ?_) (fun c_80 => ?_)
        · have c_80 : ¬ ((f (30 + i)) = (-9)) := c_80
          refine lv_iconst (v := nI 0) hx hb dX9_tales_72 (by decide) ?_
          refine lv_ior hx hb dX9_tales_73 ?_
          refine z_top (y := (zop f i) ||| 0) rfl ?_
          refine lv_istore_n (lv' := [(2, .int ((zop f i) ||| 0)), (3, .int (nI i)), (0, .ref M), (1, .int (nI c))]) hx hb dX9_tales_74 rfl hl (by decide) rfl (fun ls hl => ?_)
          refine lv_iinc (v := nI (i + 1)) (lv' := [(3, .int (nI (i + 1))), (2, .int ((zop f i) ||| 0)), (0, .ref M), (1, .int (nI c))]) hx hb dX9_tales_75 hl (k := 1) rfl (z_inc _ 1) (by decide) rfl (fun ls hl => ?_)
          refine lv_goto (tgt := 24) hx hb dX9_tales_78 (by decide) ?_
          have hl : lv_has ls 12 [(3, .int (nI (i + 1))), (2, .int ((zop f i) ||| 0)), (0, .ref M), (1, .int (nI c))] := lv_sub hl [0, 1, 2, 3] rfl
          have e_81 : (zop f i) ||| 0 = zop f (i + 1) := by first | exact zop_y (by assumption) (by assumption) | exact zop_n (fun z => absurd z.1 (by assumption)) | exact zop_n (fun z => absurd z.2 (by assumption))
          have hl : lv_has ls 12 [(3, .int (nI (i + 1))), (2, .int (zop f (i + 1))), (0, .ref M), (1, .int (nI c))] := Eq.subst (motive := fun zz_ => lv_has ls 12 [(3, .int (nI (i + 1))), (2, .int zz_), (0, .ref M), (1, .int (nI c))]) e_81 hl
          exact ih_4 _ _ _ (by omega) ⟨hP, hD, hS, hl⟩
        · have c_80 : (f (30 + i)) = (-9) := c_80
          refine lv_iconst (v := nI 1) hx hb dX9_tales_66 (by decide) ?_
          refine lv_iload_n hx hb dX9_tales_67 rfl (lv_at hl 0 rfl) ?_
          refine lv_ishl hx hb dX9_tales_68 ?_
          refine z_top (y := (1 : Int32) <<< ((nI i) &&& 31)) rfl ?_
          refine z_top (y := zbit i) (rfl) ?_
          refine lv_goto (tgt := 73) hx hb dX9_tales_69 (by decide) ?_
          refine lv_ior hx hb dX9_tales_73 ?_
          refine z_top (y := (zop f i) ||| (zbit i)) rfl ?_
          refine lv_istore_n (lv' := [(2, .int ((zop f i) ||| (zbit i))), (3, .int (nI i)), (0, .ref M), (1, .int (nI c))]) hx hb dX9_tales_74 rfl hl (by decide) rfl (fun ls hl => ?_)
          refine lv_iinc (v := nI (i + 1)) (lv' := [(3, .int (nI (i + 1))), (2, .int ((zop f i) ||| (zbit i))), (0, .ref M), (1, .int (nI c))]) hx hb dX9_tales_75 hl (k := 1) rfl (z_inc _ 1) (by decide) rfl (fun ls hl => ?_)
          refine lv_goto (tgt := 24) hx hb dX9_tales_78 (by decide) ?_
          have hl : lv_has ls 12 [(3, .int (nI (i + 1))), (2, .int ((zop f i) ||| (zbit i))), (0, .ref M), (1, .int (nI c))] := lv_sub hl [0, 1, 2, 3] rfl
          have e_82 : (zop f i) ||| (zbit i) = zop f (i + 1) := by first | exact zop_y (by assumption) (by assumption) | exact zop_n (fun z => absurd z.1 (by assumption)) | exact zop_n (fun z => absurd z.2 (by assumption))
          have hl : lv_has ls 12 [(3, .int (nI (i + 1))), (2, .int (zop f (i + 1))), (0, .ref M), (1, .int (nI c))] := Eq.subst (motive := fun zz_ => lv_has ls 12 [(3, .int (nI (i + 1))), (2, .int zz_), (0, .ref M), (1, .int (nI c))]) e_82 hl
          exact ih_4 _ _ _ (by omega) ⟨hP, hD, hS, hl⟩
  · have c_3 := zb0 c_3
    have hrgn := fun q => c_3 ((zinr (x := x1) 0 2 rfl rfl).mpr q)
    refine lv_bipush (v := -2) hx hb dX9_tales_17 (by decide) ?_
    exact z_iret Z () (by first | rw [zRa_n hrgn] | (rw [zRa_y hc0 hc (by decide)]; first | (rw [zb3_0 (by assumption)]; done) | (rw [zb3_1 (by assumption)]; done) | (rw [zb3_2 (by assumption) (by assumption) hc, if_pos (by assumption)]; done) | (rw [zb3_2 (by assumption) (by assumption) hc, if_neg (by assumption)]; done)) | rfl) hP hS dX9_tales_19
