/-! THE TEXT as it is read: how many bytes of a piece are taken, and what they say. -/
abbrev zokR (bf : Nat → Int32) (len i lo hi : Nat) : Prop := i < len ∧ ¬ bf i - 48 < nI lo ∧ bf i - 48 ≤ nI hi
def zok (bf : Nat → Int32) (len i : Nat) (al : Int32) : Prop := i < len ∧ ¬ bf i - 48 < 0 ∧ bf i - 48 ≤ 9 ∧ ¬ ((al >>> ((bf i - 48) &&& 31)) &&& 1 = 0)
def zdg (bf : Nat → Int32) (i : Nat) : Nat := (bf i - 48).toNatClampNeg
def zoR (bf : Nat → Int32) (len i lo hi : Nat) : Bool := decide (zokR bf len i lo hi)
theorem zoR_d {bf : Nat → Int32} {len i lo hi : Nat} (h : zoR bf len i lo hi = true) (hh : hi ≤ 9) (hl : lo ≤ 9) : i < len ∧ bf i - 48 = nI (zdg bf i) ∧ lo ≤ zdg bf i ∧ zdg bf i ≤ hi := by
  have h := of_decide_eq_true h
  obtain ⟨k, h1, h2, h3⟩ := zRa_of (lo := lo) (hi := hi) (by omega) (by omega) h.2.1 h.2.2
  have e : zdg bf i = k := by unfold zdg; rw [h3, nI_clamp (by omega)]
  rw [e]; exact ⟨h.1, h3, h1, h2⟩
theorem zoR_i {bf : Nat → Int32} {len i lo hi d : Nat} (hl : i < len) (h : bf i - 48 = nI d) (h1 : lo ≤ d) (h2 : d ≤ hi) (hh : hi ≤ 9) : zoR bf len i lo hi = true := by
  refine decide_eq_true ⟨hl, ?_, ?_⟩
  · rw [h]; exact nI_nlt h1 (by omega)
  · rw [h]; exact nI_le h2 (by omega)
theorem zok_d {bf : Nat → Int32} {len i : Nat} {al : Int32} (h : zok bf len i al) : i < len ∧ bf i - 48 = nI (zdg bf i) ∧ zdg bf i ≤ 9 ∧ zin al (zdg bf i) := by
  obtain ⟨h0, h1, h2, h3⟩ := h
  obtain ⟨k, k1, k2, k3⟩ := zRa_of (lo := 0) (hi := 9) (x := bf i - 48) (by omega) (by omega) h1 h2
  have e : zdg bf i = k := by unfold zdg; rw [k3, nI_clamp (by omega)]
  rw [e]; refine ⟨h0, k3, k2, ?_⟩
  rw [k3] at h3; exact h3
theorem zok_i {bf : Nat → Int32} {len i d : Nat} {al : Int32} (hl : i < len) (h : bf i - 48 = nI d) (h2 : d ≤ 9) (h3 : zin al d) : zok bf len i al := by
  refine ⟨hl, ?_, ?_, ?_⟩
  · rw [h]; exact nI_pos (by omega)
  · rw [h]; exact nI_le (a := d) (b := 9) h2 (by omega)
  · rw [h]; exact h3
theorem zok_al {bf : Nat → Int32} {len i lo hi : Nat} {al : Int32} (hl : lo ≤ 9) (hh : hi ≤ 9) (ha : ∀ d, d < 10 → (zin al d ↔ lo ≤ d ∧ d ≤ hi)) : zok bf len i al ↔ zoR bf len i lo hi = true := by
  constructor
  · intro h
    obtain ⟨h0, h1, h2, h3⟩ := zok_d h
    have h4 := (ha _ (by omega)).mp h3
    exact zoR_i h0 h1 h4.1 h4.2 hh
  · intro h
    obtain ⟨h0, h1, h2, h3⟩ := zoR_d h hh hl
    exact zok_i h0 h1 (by omega) ((ha _ (by omega)).mpr ⟨h2, h3⟩)
theorem zok_any {bf : Nat → Int32} {len i : Nat} : zok bf len i 1023 ↔ zoR bf len i 0 9 = true := zok_al (by decide) (by decide) (by decide +kernel)
theorem zok_nv {bf : Nat → Int32} {len i : Nat} : zok bf len i 63 ↔ zoR bf len i 0 5 = true := zok_al (by decide) (by decide) (by decide +kernel)
def zalS (hi lo : Nat) : Int32 := (2 <<< (nI hi &&& 31)) - (1 <<< (nI lo &&& 31))
theorem zal_bitB : ∀ hi, hi < 10 → ∀ lo, lo < 10 → ∀ d, d < 10 → (decide (hi < lo) || (decide (zin (zalS hi lo) d) == decide (lo ≤ d ∧ d ≤ hi))) = true := by decide +kernel
theorem zal_bits {hi lo d : Nat} (h1 : hi < 10) (h2 : lo < 10) (h3 : lo ≤ hi) (h4 : d < 10) : zin ((2 <<< (nI hi &&& 31)) - (1 <<< (nI lo &&& 31))) d ↔ lo ≤ d ∧ d ≤ hi := by
  have h := zal_bitB hi h1 lo h2 d h4
  rw [decide_eq_false (by omega), Bool.false_or, beq_iff_eq, decide_eq_decide] at h
  exact h
/-- how many of the first j are taken -/
def zcq (o : Nat → Bool) : Nat → Nat
  | 0 => 0
  | j + 1 => if zcq o j = j ∧ o j = true then j + 1 else zcq o j
theorem zcq_s (o : Nat → Bool) (j : Nat) : zcq o (j + 1) = if zcq o j = j ∧ o j = true then j + 1 else zcq o j := rfl
theorem zcq_le (o : Nat → Bool) : ∀ j, zcq o j ≤ j
  | 0 => Nat.le_refl 0
  | j + 1 => by
    have ih := zcq_le o j
    rw [zcq_s]; split <;> omega
theorem zcq_y {o : Nat → Bool} {j : Nat} (h : zcq o j = j) (h2 : o j = true) : zcq o (j + 1) = j + 1 := by rw [zcq_s, if_pos ⟨h, h2⟩]
theorem zcq_n {o : Nat → Bool} {j : Nat} (h : ¬ (zcq o j = j ∧ o j = true)) : zcq o (j + 1) = zcq o j := by rw [zcq_s, if_neg h]
theorem zcq_i {o : Nat → Bool} {j : Nat} (h : zcq o (j + 1) = j + 1) : zcq o j = j ∧ o j = true := by
  by_cases q : zcq o j = j ∧ o j = true
  · exact q
  · rw [zcq_n q] at h; have := zcq_le o j; omega
theorem zcq_all {o : Nat → Bool} : ∀ {j}, zcq o j = j → ∀ i, i < j → o i = true ∧ zcq o i = i
  | 0, _, i, hi => absurd hi (Nat.not_lt_zero _)
  | j + 1, h, i, hi => by
    have h2 := zcq_i h
    rcases (show i = j ∨ i < j by omega) with q | q
    · rw [q]; exact ⟨h2.2, h2.1⟩
    · exact zcq_all h2.1 i q
theorem zcq_stop {o : Nat → Bool} {j : Nat} (h : ¬ (zcq o j = j ∧ o j = true)) : ∀ i, j ≤ i → zcq o i = zcq o j ∧ (j < i → ¬ zcq o i = i)
  | 0, q => by
    have : j = 0 := by omega
    subst this; exact ⟨rfl, fun z => absurd z (Nat.lt_irrefl _)⟩
  | i + 1, q => by
    rcases (show j = i + 1 ∨ j ≤ i by omega) with z | z
    · subst z; exact ⟨rfl, fun z => absurd z (Nat.lt_irrefl _)⟩
    · have ih := zcq_stop h i z
      have hn : ¬ (zcq o i = i ∧ o i = true) := by
        rcases (show j = i ∨ j < i by omega) with y | y
        · rw [← y]; exact h
        · exact fun x => ih.2 y x.1
      rw [zcq_n hn]
      exact ⟨ih.1, fun _ => by have := zcq_le o i; omega⟩
theorem zcq_congr {o o2 : Nat → Bool} : ∀ j, (∀ i, i < j → o i = o2 i) → zcq o j = zcq o2 j
  | 0, _ => rfl
  | j + 1, h => by rw [zcq_s, zcq_s, zcq_congr j (fun i hi => h i (by omega)), h j (by omega)]
theorem zcq_add {o : Nat → Bool} {j : Nat} (h : zcq o j = j) : ∀ k, zcq o (j + k) = j + zcq (fun i => o (j + i)) k
  | 0 => h
  | k + 1 => by
    have ih := zcq_add h k
    show zcq o (j + k + 1) = _
    rw [zcq_s, zcq_s, ih]
    by_cases q : zcq (fun i => o (j + i)) k = k ∧ o (j + k) = true
    · rw [if_pos q, if_pos ⟨by omega, q.2⟩]; rfl
    · rw [if_neg q, if_neg (fun z => q ⟨by omega, z.2⟩)]
def zft (a c j : Nat) : Int32 := if c = j then -9 else nI (a + c)
theorem zft_9 {a c j : Nat} (ha : a + c < 2147483648) (h : zft a c j = -9) : c = j := by
  unfold zft at h
  by_cases q : c = j
  · exact q
  · rw [if_neg q] at h; exact absurd h (znI9 ha)
theorem zft_n {a c j : Nat} (h : ¬ zft a c j = -9) : ¬ c = j := fun q => h (if_pos q)
/-- the digit that a figure gives -/
def zvd (o : Nat → Bool) (bf : Nat → Int32) (a j : Nat) : Nat := if zcq o (j + 1) = j + 1 then zdg bf (a + j) else 0
/-- four tenths -/
def zlf (bf : Nat → Int32) (s : Nat) : Nat → Nat
  | 0 => 10
  | k + 1 => zlf bf s k - zdg bf (s + k)
def zoT (bf : Nat → Int32) (len s k : Nat) : Bool := zoR bf len (s + k) (zlf bf s k - 9 * (3 - k)) (if zlf bf s k < 9 then zlf bf s k else 9)
theorem zoT_d {bf : Nat → Int32} {len s k : Nat} (h : zoT bf len s k = true) (h2 : zlf bf s k ≤ 9 * (4 - k)) (h3 : zlf bf s k ≤ 10) (hk : k < 4) : s + k < len ∧ bf (s + k) - 48 = nI (zdg bf (s + k)) ∧ zdg bf (s + k) ≤ zlf bf s k ∧ zdg bf (s + k) ≤ 9 ∧ zlf bf s k - zdg bf (s + k) ≤ 9 * (3 - k) := by
  obtain ⟨h4, h5, h6, h7⟩ := zoR_d h (by split <;> omega) (by omega)
  refine ⟨h4, h5, ?_, ?_, by omega⟩
  · split at h7 <;> omega
  · split at h7 <;> omega
theorem zlf_b {bf : Nat → Int32} {len s : Nat} : ∀ k, k ≤ 4 → (∀ i, i < k → zoT bf len s i = true) → zlf bf s k ≤ 9 * (4 - k) ∧ zlf bf s k ≤ 10
  | 0, _, _ => ⟨by show 10 ≤ 36; decide, Nat.le_refl _⟩
  | k + 1, hk, h => by
    have ih := zlf_b k (by omega) (fun i hi => h i (by omega))
    have h1 := zoT_d (h k (by omega)) ih.1 ih.2 (by omega)
    show zlf bf s k - zdg bf (s + k) ≤ _ ∧ zlf bf s k - zdg bf (s + k) ≤ 10
    omega
theorem zlf_10 {bf : Nat → Int32} {len s : Nat} (h : ∀ i, i < 4 → zoT bf len s i = true) : zdg bf s + zdg bf (s + 1) + zdg bf (s + 2) + zdg bf (s + 3) = 10 := by
  have b0 := zlf_b 0 (by decide) (fun i hi => h i (by omega))
  have b1 := zlf_b 1 (by decide) (fun i hi => h i (by omega))
  have b2 := zlf_b 2 (by decide) (fun i hi => h i (by omega))
  have b3 := zlf_b 3 (by decide) (fun i hi => h i (by omega))
  have d0 := zoT_d (h 0 (by decide)) b0.1 b0.2 (by decide)
  have d1 := zoT_d (h 1 (by decide)) b1.1 b1.2 (by decide)
  have d2 := zoT_d (h 2 (by decide)) b2.1 b2.2 (by decide)
  have d3 := zoT_d (h 3 (by decide)) b3.1 b3.2 (by decide)
  have e0 : zlf bf s 0 = 10 := rfl
  have e1 : zlf bf s 1 = zlf bf s 0 - zdg bf (s + 0) := rfl
  have e2 : zlf bf s 2 = zlf bf s 1 - zdg bf (s + 1) := rfl
  have e3 : zlf bf s 3 = zlf bf s 2 - zdg bf (s + 2) := rfl
  rw [Nat.add_zero] at e1 d0
  omega
theorem zok_T {bf : Nat → Int32} {len s k l : Nat} (hl : l = zlf bf s k) (h2 : l ≤ 9 * (4 - k)) (h3 : l ≤ 10) (hk : k < 4) : zok bf len (s + k) ((2 <<< (nI (if l < 9 then l else 9) &&& 31)) - (1 <<< (nI (l - 9 * (3 - k)) &&& 31))) ↔ zoT bf len s k = true := by
  unfold zoT
  rw [← hl]
  refine zok_al (by omega) (by split <;> omega) (fun d hd => zal_bits (by split <;> omega) (by omega) (by split <;> omega) hd)
theorem zmax0 : ∀ a, a < 11 → ∀ b, b < 28 → (if 0 < nI a - nI b then nI a - nI b else 0) = nI (a - b) := by decide +kernel
theorem zmin9 : ∀ a, a < 11 → (if nI a < 9 then nI a else 9) = nI (if a < 9 then a else 9) := by decide +kernel
/-! The law: T, three figures, four tenths. -/
def zoL (bf : Nat → Int32) (len j : Nat) : Bool := if j < 3 then zoR bf len (1 + j) 0 9 else zoT bf len 4 (j - 3)
/-! A person, a road; what is read so far: place, people, roads, roads' rows, nerves, page. -/
abbrev zSt : Type := Nat × Nat × Nat × (Nat → Int32) × (Nat → Int32) × (Nat → Int32)
def zsp (s : zSt) : Nat := s.1
def zsn (s : zSt) : Nat := s.2.1
def zsm (s : zSt) : Nat := s.2.2.1
def zsd (s : zSt) : Nat → Int32 := s.2.2.2.1
def zsv (s : zSt) : Nat → Int32 := s.2.2.2.2.1
def zsf (s : zSt) : Nat → Int32 := s.2.2.2.2.2
def zF0 : Nat → Int32 := fun j => if 25 ≤ j ∧ j < 35 then -9 else 0
def zs0 : zSt := (8, 0, 0, fun _ => 0, fun _ => 0, zF0)
def zoP (bf : Nat → Int32) (len a j : Nat) : Bool := if j < 4 then zoT bf len a j else if j = 4 then zoR bf len (a + 4) 0 9 else zoR bf len (a + 5) 0 5
def zoD (bf : Nat → Int32) (len n : Nat) (rd : Nat → Int32) (a j : Nat) : Bool := if j = 0 then (zoR bf len a 0 (n - 1) && decide (¬ zren n rd (zdg bf a) = 0)) else (zoR bf len (a + 1) 0 (n - 1) && decide (zin (zren n rd (zdg bf a)) (zdg bf (a + 1))))
def zhoB (n : Nat) (rd : Nat → Int32) : Nat → Bool
  | 0 => false
  | i + 1 => zhoB n rd i || decide (¬ zren n rd i = 0)
abbrev zisP (bf : Nat → Int32) (s : zSt) : Prop := bf (zsp s) = 80 ∧ zsn s < 5
abbrev zisR (bf : Nat → Int32) (s : zSt) : Prop := bf (zsp s) = 82 ∧ zsm s < 6 ∧ zhoB (zsn s) (zsd s) (zsn s) = true
def zsA (bf : Nat → Int32) (len : Nat) (s : zSt) : Bool := if zisP bf s then decide (zcq (zoP bf len (zsp s + 1)) 6 = 6) else if zisR bf s then decide (zcq (zoD bf len (zsn s) (zsd s) (zsp s + 1)) 2 = 2) else false
def zsQ (bf : Nat → Int32) (len : Nat) (s : zSt) : Nat := if zisP bf s then zsp s + 1 + zcq (zoP bf len (zsp s + 1)) 6 else if zisR bf s then zsp s + 1 + zcq (zoD bf len (zsn s) (zsd s) (zsp s + 1)) 2 else zsp s
def zpt (f : Nat → Int32) (n : Nat) (g : Nat → Int32) : Nat → Nat → Int32
  | 0 => f
  | k + 1 => upd (zpt f n g k) (n * 4 + k) (g k)
def zpF (f : Nat → Int32) (n : Nat) (bf : Nat → Int32) (a : Nat) : Nat → Int32 := upd (zpt f n (fun k => nI (zdg bf (a + k))) 4) (20 + n) (nI (10 * zdg bf (a + 4)))
def zrdN (rd : Nat → Int32) (i j : Nat) : Nat → Int32 := upd (upd rd i (rd i ||| zbit j)) j (upd rd i (rd i ||| zbit j) j ||| zbit i)
def zsS (bf : Nat → Int32) (s : zSt) : zSt := if zisP bf s then (zsp s + 7, zsn s + 1, zsm s, zsd s, upd (zsv s) (zsn s) (nI (zdg bf (zsp s + 6))), zpF (zsf s) (zsn s) bf (zsp s + 1)) else (zsp s + 3, zsn s, zsm s + 1, zrdN (zsd s) (zdg bf (zsp s + 1)) (zdg bf (zsp s + 2)), zsv s, zsf s)
def zend (bf : Nat → Int32) (len : Nat) : Nat → zSt → zSt
  | 0, s => s
  | c + 1, s => if zsp s < len ∧ zsA bf len s = true then zend bf len c (zsS bf s) else s
theorem zend_s (bf : Nat → Int32) (len c : Nat) (s : zSt) : zend bf len (c + 1) s = if zsp s < len ∧ zsA bf len s = true then zend bf len c (zsS bf s) else s := rfl
def zS (bf : Nat → Int32) (len : Nat) : zSt := zend bf len 64 zs0
abbrev zlw (bf : Nat → Int32) (len : Nat) : Prop := 0 < len ∧ bf 0 = 84
def zsR (bf : Nat → Int32) (len : Nat) (s : zSt) : Int32 := if zsp s < len then nI (zsQ bf len s) else -9
def zflt (bf : Nat → Int32) (len : Nat) : Int32 := if zlw bf len then (if zcq (zoL bf len) 7 = 7 then zsR bf len (zS bf len) else nI (1 + zcq (zoL bf len) 7)) else nI 0
