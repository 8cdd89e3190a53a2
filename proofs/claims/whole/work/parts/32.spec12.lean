/-! Roads as bits; what holds of what is read. -/
def zrenX (n p b : Nat) : Int32 := (zev n &&& (nI b ^^^ -1)) &&& (zbit p ^^^ -1)
theorem zrenB : ∀ n, n < 6 → ∀ p, p < 5 → ∀ b, b < 32 → (decide ((zrenX n p b).toNatClampNeg < 2 ^ n) && decide (zrenX n p b = nI (zrenX n p b).toNatClampNeg)) = true := by decide +kernel
theorem zren_nat {n p b : Nat} {rd : Nat → Int32} (hn : n ≤ 5) (hp : p < 5) (hb : b < 32) (h : rd p = nI b) : ∃ e, e < 2 ^ n ∧ zren n rd p = nI e := by
  have h1 := zrenB n (by omega) p hp b hb
  rw [Bool.and_eq_true, decide_eq_true_eq, decide_eq_true_eq] at h1
  refine ⟨_, h1.1, ?_⟩
  unfold zren; rw [h]; exact h1.2
theorem zbitsB : ∀ n, n < 6 → ∀ e, e < 32 → ∀ d, d < 10 → (decide (2 ^ n ≤ e) || !decide (zin (nI e) d) || decide (d < n)) = true := by decide +kernel
theorem zbits_lt {n e d : Nat} (hn : n ≤ 5) (he : e < 2 ^ n) (hd : d < 10) (h : zin (nI e) d) : d < n := by
  have h2 := zp2b hn
  have h1 := zbitsB n (by omega) e (by omega) d hd
  rw [decide_eq_false (by omega), decide_eq_true h, Bool.false_or, Bool.not_true, Bool.false_or, decide_eq_true_eq] at h1
  exact h1
theorem zbitoB : ∀ i, i < 5 → ∀ s, s < 32 → ∀ d, d < 10 → (decide (2 ^ i ≤ s) || (decide (zin (nI (s + 2 ^ i)) d) == decide (zin (nI s) d ∨ d = i))) = true := by decide +kernel
theorem zbito {i s d : Nat} (hi : i < 5) (hs : s < 2 ^ i) (hd : d < 10) : zin (nI (s + 2 ^ i)) d ↔ (zin (nI s) d ∨ d = i) := by
  have h2 := zp2b (n := i) (by omega)
  have h1 := zbitoB i hi s (by omega) d hd
  rw [decide_eq_false (by omega), Bool.false_or, beq_iff_eq, decide_eq_decide] at h1
  exact h1
theorem zhoB_s (n : Nat) (rd : Nat → Int32) (i : Nat) : zhoB n rd (i + 1) = (zhoB n rd i || decide (¬ zren n rd i = 0)) := rfl
theorem zrs_nat {n : Nat} {rd : Nat → Int32} : ∀ i, i ≤ 5 → ∃ s, s < 2 ^ i ∧ zrs n rd i = nI s ∧ (∀ d, d < 10 → (zin (nI s) d ↔ d < i ∧ ¬ zren n rd d = 0)) ∧ (s = 0 ↔ zhoB n rd i = false)
  | 0, _ => ⟨0, by decide, rfl, fun d hd => ⟨fun h => absurd h (by have := zbits_lt (n := 0) (e := 0) (by omega) (by decide) hd h; omega), fun h => absurd h.1 (Nat.not_lt_zero _)⟩, ⟨fun _ => rfl, fun _ => rfl⟩⟩
  | i + 1, h => by
    obtain ⟨s, h1, h2, h3, h4⟩ := zrs_nat (n := n) (rd := rd) i (by omega)
    have hp : 0 < 2 ^ i := Nat.two_pow_pos i
    have hps : 2 ^ (i + 1) = 2 ^ i * 2 := Nat.pow_succ 2 i
    have e0 : zrs n rd (i + 1) = if zren n rd i = 0 then zrs n rd i else zrs n rd i ||| zbit i := rfl
    by_cases q : zren n rd i = 0
    · rw [e0, if_pos q]
      refine ⟨s, by omega, h2, fun d hd => ?_, ?_⟩
      · rw [h3 d hd]
        constructor
        · exact fun z => ⟨by omega, z.2⟩
        · intro z
          refine ⟨?_, z.2⟩
          rcases (show d < i ∨ d = i by omega) with y | y
          · exact y
          · rw [y] at z; exact absurd q z.2
      · rw [zhoB_s, decide_eq_false (not_not_intro q), Bool.or_false]; exact h4
    · rw [e0, if_neg q, h2, zor_bit i (by omega) s h1]
      refine ⟨s + 2 ^ i, by omega, rfl, fun d hd => ?_, ?_⟩
      · rw [zbito (by omega) h1 hd, h3 d hd]
        constructor
        · rintro (z | z)
          · exact ⟨by omega, z.2⟩
          · rw [z]; exact ⟨by omega, q⟩
        · intro z
          rcases (show d < i ∨ d = i by omega) with y | y
          · exact Or.inl ⟨y, z.2⟩
          · exact Or.inr y
      · rw [zhoB_s, decide_eq_true q, Bool.or_true]
        exact ⟨fun z => absurd z (by omega), fun z => absurd z (by decide)⟩
theorem zrs_0 {n i : Nat} {rd : Nat → Int32} (hi : i ≤ 5) : zrs n rd i = 0 ↔ zhoB n rd i = false := by
  obtain ⟨s, h1, h2, h3, h4⟩ := zrs_nat (n := n) (rd := rd) i hi
  have := zp2b hi
  rw [← h4, h2]
  constructor
  · exact fun z => zeq (i := s) (j := 0) (by omega) (by omega) z
  · intro z; rw [z]; rfl
theorem zhoB_pos {n : Nat} {rd : Nat → Int32} (h : zhoB n rd n = true) : 1 ≤ n := by
  rcases Nat.eq_zero_or_pos n with q | q
  · subst q; exact absurd h Bool.false_ne_true
  · exact q
def zrwN (rd : Nat → Int32) : Prop := ∀ i, i < 5 → ∃ b, b < 32 ∧ rd i = nI b
theorem zoD_0 {bf rd : Nat → Int32} {len n a : Nat} (hn : n ≤ 5) (h1 : 1 ≤ n) : zok bf len a (zrs n rd n) ↔ zoD bf len n rd a 0 = true := by
  obtain ⟨s, s1, s2, s3, s4⟩ := zrs_nat (n := n) (rd := rd) n hn
  have e : zoD bf len n rd a 0 = (zoR bf len a 0 (n - 1) && decide (¬ zren n rd (zdg bf a) = 0)) := rfl
  rw [e, Bool.and_eq_true, decide_eq_true_eq, s2]
  constructor
  · intro h
    obtain ⟨k0, k1, k2, k3⟩ := zok_d h
    have k4 := (s3 _ (by omega)).mp k3
    exact ⟨zoR_i k0 k1 (by omega) (by omega) (by omega), k4.2⟩
  · intro h
    obtain ⟨k0, k1, k2, k3⟩ := zoR_d h.1 (by omega) (by omega)
    exact zok_i k0 k1 (by omega) ((s3 _ (by omega)).mpr ⟨by omega, h.2⟩)
theorem zoD_0d {bf rd : Nat → Int32} {len n a : Nat} (hn : n ≤ 5) (h1 : 1 ≤ n) (h : zoD bf len n rd a 0 = true) : a < len ∧ zdg bf a < n ∧ bf a - 48 = nI (zdg bf a) ∧ ¬ zren n rd (zdg bf a) = 0 := by
  have e : zoD bf len n rd a 0 = (zoR bf len a 0 (n - 1) && decide (¬ zren n rd (zdg bf a) = 0)) := rfl
  rw [e, Bool.and_eq_true, decide_eq_true_eq] at h
  obtain ⟨k0, k1, k2, k3⟩ := zoR_d h.1 (by omega) (by omega)
  exact ⟨k0, by omega, k1, h.2⟩
theorem zoD_1 {bf rd : Nat → Int32} {len n a : Nat} (hn : n ≤ 5) (h1 : 1 ≤ n) (hr : zrwN rd) (hi : zdg bf a < n) : zok bf len (a + 1) (zren n rd (zdg bf a)) ↔ zoD bf len n rd a 1 = true := by
  obtain ⟨b, hb, hb2⟩ := hr (zdg bf a) (by omega)
  obtain ⟨s, s1, s2⟩ := zren_nat hn (show zdg bf a < 5 by omega) hb hb2
  have e : zoD bf len n rd a 1 = (zoR bf len (a + 1) 0 (n - 1) && decide (zin (zren n rd (zdg bf a)) (zdg bf (a + 1)))) := rfl
  rw [e, Bool.and_eq_true, decide_eq_true_eq, s2]
  constructor
  · intro h
    obtain ⟨k0, k1, k2, k3⟩ := zok_d h
    have k4 := zbits_lt hn s1 (by omega) k3
    exact ⟨zoR_i k0 k1 (by omega) (by omega) (by omega), k3⟩
  · intro h
    obtain ⟨k0, k1, k2, k3⟩ := zoR_d h.1 (by omega) (by omega)
    exact zok_i k0 k1 (by omega) h.2
theorem zoD_1d {bf rd : Nat → Int32} {len n a : Nat} (hn : n ≤ 5) (h1 : 1 ≤ n) (h : zoD bf len n rd a 1 = true) : a + 1 < len ∧ zdg bf (a + 1) < n ∧ bf (a + 1) - 48 = nI (zdg bf (a + 1)) := by
  have e : zoD bf len n rd a 1 = (zoR bf len (a + 1) 0 (n - 1) && decide (zin (zren n rd (zdg bf a)) (zdg bf (a + 1)))) := rfl
  rw [e, Bool.and_eq_true, decide_eq_true_eq] at h
  obtain ⟨k0, k1, k2, k3⟩ := zoR_d h.1 (by omega) (by omega)
  exact ⟨k0, by omega, k1⟩
theorem zrowB : ∀ a, a < 32 → ∀ j, j < 5 → (decide ((nI a ||| zbit j).toNatClampNeg < 32) && decide (nI a ||| zbit j = nI (nI a ||| zbit j).toNatClampNeg)) = true := by decide +kernel
theorem zrw_or {x : Int32} {j : Nat} (h : ∃ b, b < 32 ∧ x = nI b) (hj : j < 5) : ∃ b, b < 32 ∧ x ||| zbit j = nI b := by
  obtain ⟨b, h1, h2⟩ := h
  have h3 := zrowB b h1 j hj
  rw [Bool.and_eq_true, decide_eq_true_eq, decide_eq_true_eq] at h3
  rw [h2]; exact ⟨_, h3.1, h3.2⟩
theorem zrdN_w {rd : Nat → Int32} {i j : Nat} (h : zrwN rd) (hi : i < 5) (hj : j < 5) : zrwN (zrdN rd i j) := by
  have h1 : ∀ x, x < 5 → ∃ b, b < 32 ∧ upd rd i (rd i ||| zbit j) x = nI b := by
    intro x hx
    by_cases q : x = i
    · subst q; rw [pk_us]; exact zrw_or (h x hx) hj
    · rw [pk_un q]; exact h x hx
  intro x hx
  unfold zrdN
  by_cases q : x = j
  · subst q; rw [pk_us]; exact zrw_or (h1 x hx) hi
  · rw [pk_un q]; exact h1 x hx
theorem zpt_in {f g : Nat → Int32} {n k : Nat} : ∀ c, k < c → zpt f n g c (n * 4 + k) = g k
  | 0, h => absurd h (Nat.not_lt_zero _)
  | c + 1, h => by
    show upd (zpt f n g c) (n * 4 + c) (g c) (n * 4 + k) = g k
    by_cases q : k = c
    · subst q; rw [pk_us]
    · rw [pk_un (by omega)]; exact zpt_in c (by omega)
theorem zpt_out {f g : Nat → Int32} {n j : Nat} : ∀ c, (j < n * 4 ∨ n * 4 + c ≤ j) → zpt f n g c j = f j
  | 0, _ => rfl
  | c + 1, h => by
    show upd (zpt f n g c) (n * 4 + c) (g c) j = f j
    rw [pk_un (by omega)]; exact zpt_out c (by omega)
theorem zpt_eq {f g g2 : Nat → Int32} {n : Nat} : ∀ c, (∀ k, k < c → g k = g2 k) → zpt f n g c = zpt f n g2 c
  | 0, _ => rfl
  | c + 1, h => by
    show upd (zpt f n g c) (n * 4 + c) (g c) = upd (zpt f n g2 c) (n * 4 + c) (g2 c)
    rw [zpt_eq c (fun k hk => h k (by omega)), h c (by omega)]
theorem zpF_t {f bf : Nat → Int32} {n a k : Nat} (hn : n < 5) (hk : k < 4) : zpF f n bf a (n * 4 + k) = nI (zdg bf (a + k)) := by
  unfold zpF; rw [pk_un (by omega)]; exact zpt_in 4 hk
theorem zpF_c {f bf : Nat → Int32} {n a : Nat} : zpF f n bf a (20 + n) = nI (10 * zdg bf (a + 4)) := pk_us
theorem zpF_o {f bf : Nat → Int32} {n a j : Nat} (h : j < n * 4 ∨ n * 4 + 4 ≤ j) (h2 : ¬ j = 20 + n) : zpF f n bf a j = f j := by
  unfold zpF; rw [pk_un h2]; exact zpt_out 4 h
def zsI (len : Nat) (s : zSt) : Prop := zsp s ≤ len ∧ zsn s ≤ 5 ∧ zsm s ≤ 6 ∧ zrwN (zsd s) ∧ (∀ i, zsn s ≤ i → zsd s i = 0) ∧ zpv (zsn s) (zsf s) ∧ (∀ i, i < 5 → zsf s (25 + i) = -9 ∧ zsf s (30 + i) = -9) ∧ zsf s 35 = 0
theorem zsS_P {bf : Nat → Int32} {s : zSt} (h : zisP bf s) : zsS bf s = (zsp s + 7, zsn s + 1, zsm s, zsd s, upd (zsv s) (zsn s) (nI (zdg bf (zsp s + 6))), zpF (zsf s) (zsn s) bf (zsp s + 1)) := if_pos h
theorem zsS_R {bf : Nat → Int32} {s : zSt} (h : ¬ zisP bf s) : zsS bf s = (zsp s + 3, zsn s, zsm s + 1, zrdN (zsd s) (zdg bf (zsp s + 1)) (zdg bf (zsp s + 2)), zsv s, zsf s) := if_neg h
theorem zsA_P {bf : Nat → Int32} {len : Nat} {s : zSt} (h : zisP bf s) : zsA bf len s = decide (zcq (zoP bf len (zsp s + 1)) 6 = 6) := if_pos h
theorem zsA_R {bf : Nat → Int32} {len : Nat} {s : zSt} (h : ¬ zisP bf s) (h2 : zisR bf s) : zsA bf len s = decide (zcq (zoD bf len (zsn s) (zsd s) (zsp s + 1)) 2 = 2) := by unfold zsA; rw [if_neg h, if_pos h2]
theorem zsA_n {bf : Nat → Int32} {len : Nat} {s : zSt} (h : ¬ zisP bf s) (h2 : ¬ zisR bf s) : zsA bf len s = false := by unfold zsA; rw [if_neg h, if_neg h2]
theorem zsQ_P {bf : Nat → Int32} {len : Nat} {s : zSt} (h : zisP bf s) : zsQ bf len s = zsp s + 1 + zcq (zoP bf len (zsp s + 1)) 6 := if_pos h
theorem zsQ_R {bf : Nat → Int32} {len : Nat} {s : zSt} (h : ¬ zisP bf s) (h2 : zisR bf s) : zsQ bf len s = zsp s + 1 + zcq (zoD bf len (zsn s) (zsd s) (zsp s + 1)) 2 := by unfold zsQ; rw [if_neg h, if_pos h2]
theorem zsQ_n {bf : Nat → Int32} {len : Nat} {s : zSt} (h : ¬ zisP bf s) (h2 : ¬ zisR bf s) : zsQ bf len s = zsp s := by unfold zsQ; rw [if_neg h, if_neg h2]
theorem zoP_T {bf : Nat → Int32} {len a k : Nat} (hk : k < 4) : zoP bf len a k = zoT bf len a k := if_pos hk
theorem zsA_case {bf : Nat → Int32} {len : Nat} {s : zSt} (h : zsA bf len s = true) : (zisP bf s ∧ zcq (zoP bf len (zsp s + 1)) 6 = 6) ∨ (¬ zisP bf s ∧ zisR bf s ∧ zcq (zoD bf len (zsn s) (zsd s) (zsp s + 1)) 2 = 2) := by
  by_cases q : zisP bf s
  · rw [zsA_P q, decide_eq_true_eq] at h; exact Or.inl ⟨q, h⟩
  · by_cases q2 : zisR bf s
    · rw [zsA_R q q2, decide_eq_true_eq] at h; exact Or.inr ⟨q, q2, h⟩
    · rw [zsA_n q q2] at h; exact absurd h (by decide)
theorem zsS_p {bf : Nat → Int32} {len : Nat} {s : zSt} (h : zsA bf len s = true) : zsp (zsS bf s) = zsQ bf len s := by
  rcases zsA_case h with ⟨q, h2⟩ | ⟨q, q2, h2⟩
  · rw [zsS_P q, zsQ_P q, h2]; rfl
  · rw [zsS_R q, zsQ_R q q2, h2]; rfl
theorem zsI_s {bf : Nat → Int32} {len : Nat} {s : zSt} (hI : zsI len s) (h : zsA bf len s = true) : zsI len (zsS bf s) ∧ zsp s < zsp (zsS bf s) := by
  obtain ⟨i1, i2, i3, i4, i5, i6, i7, i8⟩ := hI
  rcases zsA_case h with ⟨q, h2⟩ | ⟨q, q2, h2⟩
  · have ho := zcq_all h2
    have hn := q.2
    rw [zsS_P q]
    have hl : zsp s + 1 + 5 < len := (zoR_d (bf := bf) (len := len) (i := zsp s + 1 + 5) (lo := 0) (hi := 5) (ho 5 (by decide)).1 (by decide) (by decide)).1
    have ht := zlf_10 (bf := bf) (len := len) (s := zsp s + 1) (fun i hi => by rw [← zoP_T hi]; exact (ho i (by omega)).1)
    refine ⟨⟨(show zsp s + 7 ≤ len by omega), (show zsn s + 1 ≤ 5 by omega), i3, i4, fun i hi => i5 i (by have : zsn s + 1 ≤ i := hi; omega), ?_, fun i hi => ?_, ?_⟩, (show zsp s < zsp s + 7 by omega)⟩
    · intro p hp
      have hp : p < zsn s + 1 := hp
      show zpv1 p (zpF (zsf s) (zsn s) bf (zsp s + 1))
      by_cases e : p = zsn s
      · rw [e]; exact ⟨fun k => zdg bf (zsp s + 1 + k), fun k hk => zpF_t hn hk, ht⟩
      · exact zpv1_eq (fun k hk => zpF_o (by omega) (by omega)) (i6 p (by omega))
    · show zpF (zsf s) (zsn s) bf (zsp s + 1) (25 + i) = -9 ∧ zpF (zsf s) (zsn s) bf (zsp s + 1) (30 + i) = -9
      rw [zpF_o (by omega) (by omega), zpF_o (by omega) (by omega)]; exact i7 i hi
    · show zpF (zsf s) (zsn s) bf (zsp s + 1) 35 = 0
      rw [zpF_o (by omega) (by omega)]; exact i8
  · have ho := zcq_all h2
    have h1 := zhoB_pos q2.2.2
    obtain ⟨a1, a2, a3, a4⟩ := zoD_0d i2 h1 (ho 0 (by decide)).1
    obtain ⟨b1, b2, b3⟩ := zoD_1d i2 h1 (ho 1 (by decide)).1
    have hm := q2.2.1
    rw [zsS_R q]
    refine ⟨⟨(show zsp s + 3 ≤ len by omega), i2, (show zsm s + 1 ≤ 6 by omega), zrdN_w i4 (by omega) (by rw [show zsp s + 2 = zsp s + 1 + 1 from rfl]; omega), fun i hi => ?_, i6, i7, i8⟩, (show zsp s < zsp s + 3 by omega)⟩
    have hi : zsn s ≤ i := hi
    show zrdN (zsd s) (zdg bf (zsp s + 1)) (zdg bf (zsp s + 2)) i = 0
    have e : zsp s + 2 = zsp s + 1 + 1 := rfl
    unfold zrdN
    rw [e, pk_un (by omega), pk_un (by omega)]; exact i5 i hi
theorem zsI_0 {len : Nat} (h : 8 ≤ len) : zsI len zs0 := by
  refine ⟨h, Nat.zero_le _, Nat.zero_le _, fun i _ => ⟨0, by decide, rfl⟩, fun i _ => rfl, fun p hp => absurd hp (Nat.not_lt_zero _), fun i hi => ⟨?_, ?_⟩, rfl⟩
  · show zF0 (25 + i) = -9
    unfold zF0; rw [if_pos (by omega)]
  · show zF0 (30 + i) = -9
    unfold zF0; rw [if_pos (by omega)]
theorem zend_I {bf : Nat → Int32} {len : Nat} : ∀ c s, zsI len s → zsI len (zend bf len c s)
  | 0, s, h => h
  | c + 1, s, h => by
    rw [zend_s]; split
    · rename_i q; exact zend_I c _ (zsI_s h q.2).1
    · exact h
theorem zlw_8 {bf : Nat → Int32} {len : Nat} (h : zcq (zoL bf len) 7 = 7) : 8 ≤ len ∧ zdg bf 1 ≤ 9 ∧ zdg bf 2 ≤ 9 ∧ zdg bf 3 ≤ 9 ∧ zdg bf 4 + zdg bf 5 + zdg bf 6 + zdg bf 7 = 10 := by
  have ho := zcq_all h
  have ht := zlf_10 (bf := bf) (len := len) (s := 4) (fun i hi => by
    have e := (ho (3 + i) (by omega)).1
    unfold zoL at e; rw [if_neg (by omega), show 3 + i - 3 = i by omega] at e; exact e)
  have b3 := zlf_b (bf := bf) (len := len) (s := 4) 3 (by decide) (fun i hi => by
    have e := (ho (3 + i) (by omega)).1
    unfold zoL at e; rw [if_neg (by omega), show 3 + i - 3 = i by omega] at e; exact e)
  have d3 := zoT_d (bf := bf) (len := len) (s := 4) (k := 3) (ho 6 (by decide)).1 b3.1 b3.2 (by decide)
  have d0 := zoR_d (bf := bf) (len := len) (i := 1) (lo := 0) (hi := 9) (ho 0 (by decide)).1 (by decide) (by decide)
  have d1 := zoR_d (bf := bf) (len := len) (i := 2) (lo := 0) (hi := 9) (ho 1 (by decide)).1 (by decide) (by decide)
  have d2 := zoR_d (bf := bf) (len := len) (i := 3) (lo := 0) (hi := 9) (ho 2 (by decide)).1 (by decide) (by decide)
  exact ⟨by omega, d0.2.2.2, d1.2.2.2, d2.2.2.2, ht⟩
theorem zok_n {bf : Nat → Int32} {len i : Nat} {al : Int32} (h : i < len → ¬ bf i - 48 < 0 → bf i - 48 ≤ 9 → (al >>> ((bf i - 48) &&& 31)) &&& 1 = 0) : ¬ zok bf len i al := by
  rintro ⟨h0, h1, h2, h3⟩; exact h3 (h h0 h1 h2)
theorem zoL_T {bf : Nat → Int32} {len k : Nat} : zoL bf len (3 + k) = zoT bf len 4 k := by
  unfold zoL; rw [if_neg (by omega), show 3 + k - 3 = k by omega]
theorem zvd_y {o : Nat → Bool} {bf : Nat → Int32} {a j : Nat} (h : zcq o (j + 1) = j + 1) : zvd o bf a j = zdg bf (a + j) := if_pos h
theorem zvd_n {o : Nat → Bool} {bf : Nat → Int32} {a j : Nat} (h : ¬ zcq o (j + 1) = j + 1) : zvd o bf a j = 0 := if_neg h
theorem zcq_n1 {o : Nat → Bool} {j : Nat} (h : ¬ (zcq o j = j ∧ o j = true)) : ¬ zcq o (j + 1) = j + 1 := fun z => h (zcq_i z)
theorem zvd_k {o : Nat → Bool} {bf : Nat → Int32} {len ap jq k l : Nat} (ho : o (jq + k) = zoT bf len (ap + jq) k) (hl : l ≤ 10) (hk : k < 4) (h : zcq o (jq + k) = jq + k → l = zlf bf (ap + jq) k ∧ l ≤ 9 * (4 - k)) : zvd o bf ap (jq + k) ≤ l ∧ (zcq o (jq + k + 1) = jq + k + 1 → l - zvd o bf ap (jq + k) = zlf bf (ap + jq) (k + 1) ∧ l - zvd o bf ap (jq + k) ≤ 9 * (4 - (k + 1)) ∧ zvd o bf ap (jq + k) = zdg bf (ap + jq + k)) := by
  by_cases q : zcq o (jq + k + 1) = jq + k + 1
  · rw [zvd_y q]
    obtain ⟨q1, q2⟩ := zcq_i q
    obtain ⟨h1, h2⟩ := h q1
    rw [ho] at q2
    rw [h1] at h2 hl ⊢
    obtain ⟨h3, h4, h5, h6, h7⟩ := zoT_d q2 h2 hl hk
    rw [show ap + (jq + k) = ap + jq + k by omega]
    exact ⟨h5, fun _ => ⟨rfl, by omega, rfl⟩⟩
  · rw [zvd_n q]; exact ⟨Nat.zero_le _, fun z => absurd z q⟩
theorem zpF_of {o : Nat → Bool} {f bf te : Nat → Int32} {n ap : Nat} (h : zcq o 6 = 6) (ht : zcq o 4 = 4 → ∀ y, y < 4 → te y = nI (zdg bf (ap + y))) : upd (zpt f n te 4) (20 + n) (nI (10 * zvd o bf ap 4)) = zpF f n bf ap := by
  have h5 := (zcq_i (j := 5) h).1
  have h4 := (zcq_i (j := 4) h5).1
  rw [zvd_y (j := 4) h5, zpt_eq 4 (fun k hk => ht h4 k hk)]; rfl
def zgot (bf : Nat → Int32) (len n m : Nat) (rt fr pr : Int32) (od nv rd f : Nat → Int32) : Prop := (n = zsn (zS bf len) ∧ m = zsm (zS bf len) ∧ rd = zsd (zS bf len) ∧ f = zsf (zS bf len) ∧ (∀ i, i < zsn (zS bf len) → nv i = zsv (zS bf len) i)) ∧ rt = nI (zdg bf 1) ∧ fr = nI (zdg bf 2) ∧ pr = nI (zdg bf 3) ∧ ∀ k, k < 4 → od k = nI (zdg bf (4 + k))
theorem zend_x {bf : Nat → Int32} {len : Nat} {s : zSt} (h : ¬ (zsp s < len ∧ zsA bf len s = true)) : ∀ c, zend bf len c s = s
  | 0 => rfl
  | c + 1 => by rw [zend_s, if_neg h]
theorem zflt_y {bf : Nat → Int32} {len : Nat} (h : zlw bf len) (h2 : zcq (zoL bf len) 7 = 7) : zflt bf len = zsR bf len (zS bf len) := by
  unfold zflt; rw [if_pos h, if_pos h2]
theorem zflt_n {bf : Nat → Int32} {len : Nat} (h : zlw bf len) (h2 : ¬ zcq (zoL bf len) 7 = 7) : zflt bf len = nI (1 + zcq (zoL bf len) 7) := by
  unfold zflt; rw [if_pos h, if_neg h2]
theorem zflt_x {bf : Nat → Int32} {len : Nat} (h : ¬ zlw bf len) : zflt bf len = nI 0 := by
  unfold zflt; rw [if_neg h]
