/-! LEAST: the reference reckons from the last day back, the class row by row. -/
theorem zcm_lo {f : Nat → Int32} {rt fr : Int32} {k p j : Nat} (hk : k < 4) (hj : j < 4) (hp : p < 5) : ∀ i, i ≤ p → zcm f rt fr k i (p * 4 + j) = f (p * 4 + j)
  | 0, _ => rfl
  | i + 1, h => by
    show zlearn (upd (zcm f rt fr k i) (20 + i) _) i k (p * 4 + j) = _
    rw [zlearn_o (by omega) hk, pk_un (by omega)]
    exact zcm_lo hk hj hp i (by omega)
theorem zcm_hi {f : Nat → Int32} {rt fr : Int32} {k p j : Nat} (hk : k < 4) (hj : j < 4) (hp : p < 5) : ∀ i, p + 1 ≤ i → zcm f rt fr k i (p * 4 + j) = zcm f rt fr k (p + 1) (p * 4 + j)
  | 0, h => by omega
  | i + 1, h => by
    rcases (show i = p ∨ p + 1 ≤ i by omega) with r | r
    · subst r; rfl
    · show zlearn (upd (zcm f rt fr k i) (20 + i) _) i k (p * 4 + j) = _
      rw [zlearn_o (by omega) hk, pk_un (by omega)]
      exact zcm_hi hk hj hp i r
theorem zlearn_row {E F : Nat → Int32} {p k : Nat} (h : ∀ j, j < 4 → E (p * 4 + j) = F (p * 4 + j)) (hv : zpv1 p F) (hk : k < 4) : ∀ j, j < 4 → zlearn E p k (p * 4 + j) = zlearn F p k (p * 4 + j) := by
  intro j hj
  rw [← zml_row (t := fun j => E (p * 4 + j)) (fun j _ => rfl) (zpv1_eq h hv) hk j hj, ← zml_row (t := fun j => E (p * 4 + j)) h hv hk j hj]
theorem zcome_row {f : Nat → Int32} {rt fr : Int32} {n k p : Nat} (hn : n ≤ 5) (hp : p < n) (hk : k < 4) (hv : zpv1 p f) : ∀ j, j < 4 → zcome f rt fr n k (p * 4 + j) = zlearn f p k (p * 4 + j) := by
  intro j hj
  have e1 : zcome f rt fr n k (p * 4 + j) = zcm f rt fr k n (p * 4 + j) := by
    unfold zcome zfg; rw [if_neg (by omega), pk_un (by omega)]
  rw [e1, zcm_hi hk hj (by omega) n (by omega)]
  show zlearn (upd (zcm f rt fr k p) (20 + p) _) p k (p * 4 + j) = _
  exact zlearn_row (fun i hi => by rw [pk_un (by omega)]; exact zcm_lo hk hi (by omega) p (Nat.le_refl p)) hv hk j hj
theorem zpg_row {f t : Nat → Int32} {rt fr : Int32} {n p d w i : Nat} (hn : n ≤ 5) (hp : p < n) (hv : zpv n f) (h : ∀ j, j < 4 → t j = zpg f rt fr n d w i (p * 4 + j)) : ∀ j, j < 4 → zml t 0 (zki w d i) j = zpg f rt fr n d w (i + 1) (p * 4 + j) := by
  intro j hj
  have hv1 : zpv1 p (zpg f rt fr n d w i) := zpg_v hv hn i p hp
  rw [zml_row h hv1 (zki_lt w d i) j hj]
  exact (zcome_row hn hp (zki_lt w d i) hv1 j hj).symm
theorem zpg_d {f : Nat → Int32} {rt fr : Int32} {n p d w : Nat} (hp : p < 5) (hd : 0 < d) : zpg f rt fr n d w d (25 + p) = -9 ∧ zpg f rt fr n d w d (30 + p) = -9 := by
  obtain ⟨c, hc⟩ : ∃ c, d = c + 1 := ⟨d - 1, by omega⟩
  have e : zpg f rt fr n d w d = zcome (zpg f rt fr n d w c) rt fr n (zki w d c) := by
    conv => lhs; arg 7; rw [hc]
    rfl
  rw [e]
  constructor
  · unfold zcome zfg; rw [if_pos (by omega)]
  · unfold zcome zfg; rw [if_pos (by omega)]
def zdv : Nat → Int32
  | 0 => -9
  | c + 1 => nI c
theorem zdv_T : ∀ j, j ≤ 5 → 4 ≤ zdv j → j = 5 := by decide +kernel
theorem zdv_F : ∀ j, j ≤ 5 → ¬ 4 ≤ zdv j → j < 5 := by decide +kernel
theorem zdv_0 : ∀ j, j ≤ 5 → zdv j = -9 → j = 0 := by decide +kernel
theorem zdv_n {j : Nat} (h : ¬ zdv j = -9) : 0 < j := by
  rcases Nat.eq_zero_or_pos j with q | q
  · subst q; exact absurd rfl h
  · exact q
theorem zdv_a : ∀ j, j < 5 → zdv j = -9 → nI 0 = zdv (j + 1) := by decide +kernel
theorem zdv_b : ∀ j, j < 5 → ¬ zdv j = -9 → zdv j + 1 = zdv (j + 1) := by decide +kernel
def zba (pr : Int32) (d : Nat) : Nat → Int32
  | 0 => 0
  | _ + 1 => pr * nI (10 ^ d)
theorem zba_a {pr : Int32} {d j : Nat} (hj : j ≤ 5) (h : zdv j = -9) : nI 0 = zba pr d j := by
  have := zdv_0 j hj h; subst this; rfl
theorem zba_b {pr : Int32} {d j : Nat} (h : ¬ zdv j = -9) : pr * nI (10 ^ d) = zba pr d j := by
  obtain ⟨c, rfl⟩ : ∃ c, j = c + 1 := ⟨j - 1, by have := zdv_n h; omega⟩
  rfl
def zdc (dc : Int32) : Nat → Int32
  | 0 => dc
  | c + 1 => nI c
theorem zdc_a {dc : Int32} {j : Nat} (hj : j ≤ 5) (h : zdv j = -9) : dc = zdc dc j := by
  have := zdv_0 j hj h; subst this; rfl
theorem zdc_b {dc : Int32} {j : Nat} (h : ¬ zdv j = -9) : zdv j = zdc dc j := by
  obtain ⟨c, rfl⟩ : ∃ c, j = c + 1 := ⟨j - 1, by have := zdv_n h; omega⟩
  rfl
def zCs (od X : Nat → Int32) : Nat → Int32
  | 0 => 0
  | k + 1 => zCs od X k + od k * X k
def zdy (od t : Nat → Int32) (rt fr he a b dc : Int32) (X : Nat → Int32) : Nat → Int32
  | 0 => b
  | k + 1 => zdy od t rt fr he a b dc X k + od k * (rt * zsu (t k) dc he (nI k) fr * a + X k)
theorem zdy_eq {od t E X : Nat → Int32} {rt fr he a b dc : Int32} {p : Nat} (ht : ∀ k, k < 4 → t k = E (p * 4 + k)) (hh : he = E (30 + p)) : ∀ k, k ≤ 4 → zdy od t rt fr he a b dc X k = b + (a * zmtd E od rt fr p dc k + zCs od X k)
  | 0, _ => by
    show b = b + (a * 0 + 0)
    rw [Int32.mul_zero, Int32.add_zero, Int32.add_zero]
  | k + 1, h => by
    have ih := zdy_eq (od := od) (X := X) (rt := rt) (fr := fr) (a := a) (b := b) (dc := dc) ht hh k (by omega)
    show zdy od t rt fr he a b dc X k + od k * (rt * zsu (t k) dc he (nI k) fr * a + X k) = b + (a * (zmtd E od rt fr p dc k + od k * (rt * zsu (E (p * 4 + k)) dc (E (30 + p)) (nI k) fr)) + (zCs od X k + od k * X k))
    rw [ih, ht k (by omega), hh]
    generalize zsu (E (p * 4 + k)) dc (E (30 + p)) (nI k) fr = s
    generalize zmtd E od rt fr p dc k = M
    generalize zCs od X k = C
    generalize od k = o
    generalize X k = x
    grind
/-- everything one may pay is a small number -/
theorem zsu_nat {e : Nat} {d h : Int32} {k r5 : Nat} (he : e ≤ 10) (hr : r5 ≤ 9) : ∃ s, zsu (nI e) d h (nI k) (nI r5) = nI s ∧ s ≤ 10 := by
  have key : ∀ e, e ≤ 10 → ∀ r, r ≤ 9 → (∃ s, s ≤ 10 ∧ (if 0 < 10 - nI e - nI r then 10 - nI e - nI r else 0) = nI s) := by decide +kernel
  have key2 : ∀ s, s ≤ 10 → (nI s / 2 = nI (s / 2)) := by decide +kernel
  have key3 : ∀ r, r ≤ 9 → (10 : Int32) - nI r = nI (10 - r) := by decide +kernel
  obtain ⟨s, hs, hs2⟩ := key e he r5 hr
  unfold zsu
  by_cases h1 : d = nI k
  · rw [if_pos h1]; exact ⟨0, rfl, by omega⟩
  · rw [if_neg h1]
    by_cases h2 : d = -9
    · rw [if_pos h2, hs2]
      by_cases h3 : h = nI k
      · rw [if_pos h3, key2 s hs]; exact ⟨s / 2, rfl, by omega⟩
      · rw [if_neg h3]; exact ⟨s, rfl, hs⟩
    · rw [if_neg h2, key3 r5 hr]; exact ⟨10 - r5, rfl, by omega⟩
theorem ztax_nat {E : Nat → Int32} {p k q5 r5 : Nat} (hv : zpv1 p E) (hk : k < 4) (hq : q5 ≤ 9) (hr : r5 ≤ 9) : ∃ s, ztax E (nI q5) (nI r5) p k = nI s ∧ s ≤ 90 := by
  obtain ⟨e, h1, h2⟩ := hv
  unfold ztax
  rw [h1 k hk]
  obtain ⟨s, h3, h4⟩ := zsu_nat (d := E (25 + p)) (h := E (30 + p)) (k := k) (r5 := r5) (zek h2 hk) hr
  rw [h3, z_mul]
  exact ⟨q5 * s, rfl, by have := Nat.mul_le_mul hq h4; omega⟩
theorem zmt_nat {E od : Nat → Int32} {p q5 r5 : Nat} (hv : zpv1 p E) (ho : zov od) (hq : q5 ≤ 9) (hr : r5 ≤ 9) : ∃ s, zmt E od (nI q5) (nI r5) p 4 = nI s ∧ s ≤ 900 := by
  obtain ⟨e, h1, h2⟩ := ho
  have key : ∀ k, k ≤ 4 → ∃ s, zmt E od (nI q5) (nI r5) p k = nI s ∧ s ≤ 90 * zes e k := by
    intro k
    induction k with
    | zero => intro _; exact ⟨0, rfl, Nat.zero_le _⟩
    | succ k ih =>
      intro hk
      obtain ⟨s, h3, h4⟩ := ih (by omega)
      obtain ⟨t, h5, h6⟩ := ztax_nat (k := k) hv (by omega) hq hr
      refine ⟨s + e k * t, ?_, ?_⟩
      · show zmt E od (nI q5) (nI r5) p k + od k * ztax E (nI q5) (nI r5) p k = _
        rw [h3, h1 k (by omega), h5, z_mul, z_add]
      · show _ ≤ 90 * (zes e k + e k)
        have := Nat.mul_le_mul_left (e k) h6
        rw [Nat.mul_add, Nat.mul_comm 90 (e k)]; omega
  obtain ⟨s, h3, h4⟩ := key 4 (Nat.le_refl 4)
  rw [zes_4 h2] at h4
  exact ⟨s, h3, h4⟩
theorem zchg_v {E : Nat → Int32} {p k : Nat} (hp : p < 5) (hv : zpv1 p E) : zpv1 p (zchg E p k) := by
  cases k with
  | zero => exact hv
  | succ k => exact zpv1_eq (fun j hj => pk_un (by omega)) hv
theorem zpay_nat {E od : Nat → Int32} {p q5 r5 s5 k : Nat} (hp : p < 5) (hv : zpv1 p E) (ho : zov od) (hq : q5 ≤ 9) (hr : r5 ≤ 9) (hs : s5 ≤ 9) : ∃ s, 10 * nI s5 + zmt (zchg E p (k + 1)) od (nI q5) (nI r5) p 4 = nI s ∧ s ≤ 990 := by
  obtain ⟨s, h1, h2⟩ := zmt_nat (zchg_v (k := k + 1) hp hv) ho hq hr
  rw [h1]
  have e : (10 : Int32) * nI s5 = nI (10 * s5) := z_mul 10 s5
  rw [e, z_add]
  exact ⟨10 * s5 + s, rfl, by omega⟩
theorem zch_nat {E od : Nat → Int32} {p q5 r5 s5 : Nat} (hp : p < 5) (hv : zpv1 p E) (ho : zov od) (hq : q5 ≤ 9) (hr : r5 ≤ 9) (hs : s5 ≤ 9) : ∀ c, c ≤ 4 → ∃ s, (zch E od (nI q5) (nI r5) (nI s5) p c).2 = nI s ∧ s ≤ 990
  | 0, _ => by
    obtain ⟨s, h1, h2⟩ := zmt_nat hv ho hq hr
    exact ⟨s, h1, by omega⟩
  | c + 1, hc => by
    rw [zch_s]; split
    · exact zch_nat hp hv ho hq hr hs c (by omega)
    · exact zpay_nat hp hv ho hq hr hs
/-- what the reference holds least after its options so far -/
def zLe (E od : Nat → Int32) (rt fr pr : Int32) (p : Nat) (a C : Int32) : Nat → Int32
  | 0 => -9
  | c + 1 => a * (zch E od rt fr pr p (if E (25 + p) = -9 then c else 0)).2 + C
theorem zLe_c (E od : Nat → Int32) (rt fr pr : Int32) (p : Nat) (a C : Int32) (c : Nat) : zLe E od rt fr pr p a C (c + 1) = a * (zch E od rt fr pr p (if E (25 + p) = -9 then c else 0)).2 + C := rfl
theorem zLe_nat {E od : Nat → Int32} {p q5 r5 s5 a C : Nat} (hp : p < 5) (hv : zpv1 p E) (ho : zov od) (hq : q5 ≤ 9) (hr : r5 ≤ 9) (hs : s5 ≤ 9) (ha : a ≤ 100) (hC : C ≤ 1000000) {c : Nat} (hc : c ≤ 4) : ∃ s, zLe E od (nI q5) (nI r5) (nI s5) p (nI a) (nI C) (c + 1) = nI s ∧ s ≤ 99000 + C := by
  obtain ⟨s, h1, h2⟩ := zch_nat hp hv ho hq hr hs (if E (25 + p) = -9 then c else 0) (by split <;> omega)
  rw [zLe_c, h1, z_mul, z_add]
  exact ⟨a * s + C, rfl, by have := Nat.mul_le_mul ha h2; omega⟩
theorem zLe_0 {E od : Nat → Int32} {p q5 r5 s5 a C j : Nat} (hp : p < 5) (hv : zpv1 p E) (ho : zov od) (hq : q5 ≤ 9) (hr : r5 ≤ 9) (hs : s5 ≤ 9) (ha : a ≤ 100) (hC : C ≤ 1000000) (hj : j ≤ 5) (h : zLe E od (nI q5) (nI r5) (nI s5) p (nI a) (nI C) j = -9) : j = 0 := by
  cases j with
  | zero => rfl
  | succ c =>
    obtain ⟨s, h1, h2⟩ := zLe_nat (a := a) (C := C) hp hv ho hq hr hs ha hC (c := c) (by omega)
    rw [h1] at h
    exact absurd h (znI9 (by omega))
/-- the sum of the j-th option -/
def zLs (E od : Nat → Int32) (rt fr pr : Int32) (p : Nat) (a C : Int32) : Nat → Int32
  | 0 => a * zmt E od rt fr p 4 + C
  | c + 1 => a * (10 * pr + zmt (zchg E p (c + 1)) od rt fr p 4) + C
theorem zLs_eq {E od : Nat → Int32} {rt fr pr dc C : Int32} {p d j : Nat} (hp : p < 5) (hd : dc = E (25 + p)) : zba pr (d + 1) j + (nI (10 ^ d) * zmtd E od rt fr p (zdc dc j) 4 + C) = zLs E od rt fr pr p (nI (10 ^ d)) C j := by
  cases j with
  | zero =>
    show 0 + (nI (10 ^ d) * zmtd E od rt fr p dc 4 + C) = nI (10 ^ d) * zmt E od rt fr p 4 + C
    rw [hd, zmtd_own, Int32.zero_add]
  | succ c =>
    show pr * nI (10 ^ (d + 1)) + (nI (10 ^ d) * zmtd E od rt fr p (nI c) 4 + C) = nI (10 ^ d) * (10 * pr + zmt (zchg E p (c + 1)) od rt fr p 4) + C
    rw [zmtd_ch E od rt fr hp c, Nat.pow_succ, ← z_mul]
    have e : nI 10 = (10 : Int32) := rfl
    rw [e]
    generalize zmt (zchg E p (c + 1)) od rt fr p 4 = M
    generalize nI (10 ^ d) = A
    grind
theorem zaff {a C x y : Nat} (ha : 0 < a) (ha2 : a ≤ 100) (hC : C ≤ 1000000) (hx : x ≤ 990) (hy : y ≤ 990) : nI a * nI x + nI C ≤ nI a * nI y + nI C ↔ nI x ≤ nI y := by
  have h1 := Nat.mul_le_mul ha2 hx
  have h2 := Nat.mul_le_mul ha2 hy
  rw [z_mul, z_mul, z_add, z_add, nI_leI (by omega) (by omega), nI_leI (by omega) (by omega)]
  constructor
  · intro h
    exact Nat.le_of_mul_le_mul_left (by omega : a * x ≤ a * y) ha
  · intro h
    have := Nat.mul_le_mul_left a h
    omega
theorem zLe_a {E od : Nat → Int32} {p q5 r5 s5 a C j : Nat} (hp : p < 5) (hv : zpv1 p E) (ho : zov od) (hq : q5 ≤ 9) (hr : r5 ≤ 9) (hs : s5 ≤ 9) (ha : a ≤ 100) (hC : C ≤ 1000000) (hj : j ≤ 5) (h : zLe E od (nI q5) (nI r5) (nI s5) p (nI a) (nI C) j = -9) : zLs E od (nI q5) (nI r5) (nI s5) p (nI a) (nI C) j = zLe E od (nI q5) (nI r5) (nI s5) p (nI a) (nI C) (j + 1) := by
  have e := zLe_0 hp hv ho hq hr hs ha hC hj h
  subst e
  show _ = nI a * (zch E od (nI q5) (nI r5) (nI s5) p (if E (25 + p) = -9 then 0 else 0)).2 + nI C
  have e : (if E (25 + p) = -9 then 0 else 0) = 0 := by split <;> rfl
  rw [e]; rfl
theorem zLe_s {E od : Nat → Int32} {p q5 r5 s5 a C j : Nat} (hp : p < 5) (hv : zpv1 p E) (ho : zov od) (hq : q5 ≤ 9) (hr : r5 ≤ 9) (hs : s5 ≤ 9) (ha0 : 0 < a) (ha : a ≤ 100) (hC : C ≤ 1000000) (hj : j < 5) (hd : zdv j = -9 ∨ E (25 + p) = -9) (h : ¬ zLe E od (nI q5) (nI r5) (nI s5) p (nI a) (nI C) j = -9) :
    zLe E od (nI q5) (nI r5) (nI s5) p (nI a) (nI C) (j + 1) = if zLe E od (nI q5) (nI r5) (nI s5) p (nI a) (nI C) j ≤ zLs E od (nI q5) (nI r5) (nI s5) p (nI a) (nI C) j then zLe E od (nI q5) (nI r5) (nI s5) p (nI a) (nI C) j else zLs E od (nI q5) (nI r5) (nI s5) p (nI a) (nI C) j := by
  cases j with
  | zero => exact absurd rfl h
  | succ c =>
    have hd9 : E (25 + p) = -9 := hd.resolve_left (znI9 (by omega))
    have e : zLs E od (nI q5) (nI r5) (nI s5) p (nI a) (nI C) (c + 1) = nI a * (10 * nI s5 + zmt (zchg E p (c + 1)) od (nI q5) (nI r5) p 4) + nI C := rfl
    rw [zLe_c, zLe_c, e, if_pos hd9, if_pos hd9, zch_s]
    obtain ⟨x, hx1, hx2⟩ := zch_nat hp hv ho hq hr hs c (by omega)
    obtain ⟨y, hy1, hy2⟩ := zpay_nat (k := c) hp hv ho hq hr hs
    rw [hx1, hy1]
    have hz := zaff ha0 ha hC hx2 hy2
    by_cases q : nI x ≤ nI y
    · rw [if_pos q, if_pos (hz.mpr q), hx1]
    · rw [if_neg q, if_neg (fun z => q (hz.mp z))]
theorem zLe_k {E od : Nat → Int32} {rt fr pr a C : Int32} {p j : Nat} (hj : 0 < j) (h : ¬ E (25 + p) = -9) : zLe E od rt fr pr p a C j = zLe E od rt fr pr p a C (j + 1) := by
  obtain ⟨c, rfl⟩ : ∃ c, j = c + 1 := ⟨j - 1, by omega⟩
  rw [zLe_c, zLe_c, if_neg h, if_neg h]
theorem zLe_5 {E od : Nat → Int32} {rt fr pr a C : Int32} {p : Nat} : zLe E od rt fr pr p a C 5 = a * (zchF E od rt fr pr p).2 + C := by
  rw [zLe_c]; unfold zchF; split <;> rfl
theorem zCs_nat {od X : Nat → Int32} {B : Nat} (ho : zov od) (hX : ∀ k, k < 4 → ∃ y, X k = nI y ∧ y ≤ B) : ∃ C, zCs od X 4 = nI C ∧ C ≤ 10 * B := by
  obtain ⟨e, h1, h2⟩ := ho
  have key : ∀ k, k ≤ 4 → ∃ s, zCs od X k = nI s ∧ s ≤ B * zes e k := by
    intro k
    induction k with
    | zero => intro _; exact ⟨0, rfl, Nat.zero_le _⟩
    | succ k ih =>
      intro hk
      obtain ⟨s, h3, h4⟩ := ih (by omega)
      obtain ⟨t, h5, h6⟩ := hX k (by omega)
      refine ⟨s + e k * t, ?_, ?_⟩
      · show zCs od X k + od k * X k = _
        rw [h3, h1 k (by omega), h5, z_mul, z_add]
      · show _ ≤ B * (zes e k + e k)
        have := Nat.mul_le_mul_left (e k) h6
        rw [Nat.mul_add, Nat.mul_comm B (e k)]; omega
  obtain ⟨s, h3, h4⟩ := key 4 (Nat.le_refl 4)
  rw [zes_4 h2, Nat.mul_comm] at h4
  exact ⟨s, h3, h4⟩
theorem zCs_eq {od X Y : Nat → Int32} (h : ∀ k, k < 4 → X k = Y k) : ∀ k, k ≤ 4 → zCs od X k = zCs od Y k
  | 0, _ => rfl
  | k + 1, hk => by
    show zCs od X k + od k * X k = zCs od Y k + od k * Y k
    rw [zCs_eq h k (by omega), h k (by omega)]
/-- what m last days cost at least, behind a row of kinds -/
def zLV (f od : Nat → Int32) (rt fr pr : Int32) (n p N : Nat) : Nat → Nat → Int32
  | 0, _ => 0
  | m + 1, w => nI (10 ^ m) * (zchF (zpg f rt fr n (N - 1 - m) w (N - 1 - m)) od rt fr pr p).2 + zCs od (fun k => zLV f od rt fr pr n p N m (4 * w + k)) 4
theorem zchF_nat {E od : Nat → Int32} {p q5 r5 s5 : Nat} (hp : p < 5) (hv : zpv1 p E) (ho : zov od) (hq : q5 ≤ 9) (hr : r5 ≤ 9) (hs : s5 ≤ 9) : ∃ s, (zchF E od (nI q5) (nI r5) (nI s5) p).2 = nI s ∧ s ≤ 990 := by
  unfold zchF; split
  · exact zch_nat hp hv ho hq hr hs 4 (by omega)
  · exact zch_nat hp hv ho hq hr hs 0 (by omega)
theorem zLV_nat {f od : Nat → Int32} {n p N q5 r5 s5 : Nat} (hn : n ≤ 5) (hp : p < n) (hv : zpv n f) (ho : zov od) (hq : q5 ≤ 9) (hr : r5 ≤ 9) (hs : s5 ≤ 9) : ∀ m w, ∃ s, zLV f od (nI q5) (nI r5) (nI s5) n p N m w = nI s ∧ s ≤ 99 * m * 10 ^ m
  | 0, w => ⟨0, rfl, Nat.zero_le _⟩
  | m + 1, w => by
    obtain ⟨x, h1, h2⟩ := zchF_nat (p := p) (by omega) (zpg_v (rt := nI q5) (fr := nI r5) (d := N - 1 - m) (w := w) hv hn (N - 1 - m) p hp) ho hq hr hs
    obtain ⟨C, h3, h4⟩ := zCs_nat (X := fun k => zLV f od (nI q5) (nI r5) (nI s5) n p N m (4 * w + k)) ho (fun k _ => zLV_nat hn hp hv ho hq hr hs m (4 * w + k))
    refine ⟨10 ^ m * x + C, ?_, ?_⟩
    · show nI (10 ^ m) * _ + _ = _
      rw [h1, h3, z_mul, z_add]
    · have h5 := Nat.mul_le_mul_left (10 ^ m) h2
      have e : 99 * (m + 1) * 10 ^ (m + 1) = 10 ^ m * 990 + 10 * (99 * m * 10 ^ m) := by
        rw [Nat.pow_succ]
        generalize 10 ^ m = T
        grind
      omega
def zsum (F : Nat → Int32) : Nat → Int32
  | 0 => 0
  | c + 1 => zsum F c + F c
theorem zsum_add {F G : Nat → Int32} : ∀ c, zsum (fun i => F i + G i) c = zsum F c + zsum G c
  | 0 => rfl
  | c + 1 => by
    show zsum (fun i => F i + G i) c + (F c + G c) = (zsum F c + F c) + (zsum G c + G c)
    rw [zsum_add c]; grind
theorem zsum_eq {F G : Nat → Int32} : ∀ c, (∀ i, i < c → F i = G i) → zsum F c = zsum G c
  | 0, _ => rfl
  | c + 1, h => by
    show zsum F c + F c = zsum G c + G c
    rw [zsum_eq c (fun i hi => h i (by omega)), h c (by omega)]
theorem zsum_4 {F : Nat → Int32} : ∀ c, zsum F (4 * c) = zsum (fun w => F (4 * w) + F (4 * w + 1) + F (4 * w + 2) + F (4 * w + 3)) c
  | 0 => rfl
  | c + 1 => by
    show zsum F (4 * c) + F (4 * c) + F (4 * c + 1) + F (4 * c + 2) + F (4 * c + 3) = zsum _ c + (F (4 * c) + F (4 * c + 1) + F (4 * c + 2) + F (4 * c + 3))
    rw [zsum_4 c]; grind
theorem zki_up {w k d i : Nat} (hk : k < 4) (hi : i < d) : zki (4 * w + k) (d + 1) i = zki w d i := by
  unfold zki
  have e : d + 1 - 1 - i = (d - 1 - i) + 1 := by omega
  rw [e, Nat.pow_succ', ← Nat.div_div_eq_div_mul, show (4 * w + k) / 4 = w by omega]
theorem zki_top {w k d : Nat} (hk : k < 4) : zki (4 * w + k) (d + 1) d = k := by
  unfold zki
  rw [show d + 1 - 1 - d = 0 by omega, Nat.pow_zero, Nat.div_one]; omega
theorem zpw_up {od : Nat → Int32} {w k d : Nat} (hk : k < 4) : ∀ i, i ≤ d → zpw od (d + 1) (4 * w + k) i = zpw od d w i
  | 0, _ => rfl
  | i + 1, h => by
    show zpw od (d + 1) (4 * w + k) i * od (zki (4 * w + k) (d + 1) i) = zpw od d w i * od (zki w d i)
    rw [zpw_up hk i (by omega), zki_up hk (by omega)]
theorem zpw_s {od : Nat → Int32} {w k d : Nat} (hk : k < 4) : zpw od (d + 1) (4 * w + k) (d + 1) = zpw od d w d * od k := by
  show zpw od (d + 1) (4 * w + k) d * od (zki (4 * w + k) (d + 1) d) = _
  rw [zpw_up hk d (Nat.le_refl d), zki_top hk]
theorem zlr_sum {f od : Nat → Int32} {rt fr pr : Int32} {n p N d : Nat} {x : Int32} : ∀ c, zlr f od rt fr pr n p N d x c = x + zsum (zlo f od rt fr pr n p N d) c
  | 0 => by show x = x + 0; rw [Int32.add_zero]
  | c + 1 => by
    show zlr f od rt fr pr n p N d x c + _ = x + (zsum _ c + _)
    rw [zlr_sum c, Int32.add_assoc]
/-- all that the last days cost, by their rows' odds -/
theorem zLV_step {f od : Nat → Int32} {rt fr pr : Int32} {n p N m d : Nat} (hd : d + m + 1 = N) : zsum (fun w => zpw od d w d * zLV f od rt fr pr n p N (m + 1) w) (4 ^ d) = zsum (zlo f od rt fr pr n p N d) (4 ^ d) + zsum (fun w => zpw od (d + 1) w (d + 1) * zLV f od rt fr pr n p N m w) (4 ^ (d + 1)) := by
  rw [Nat.pow_succ 4 d, Nat.mul_comm (4 ^ d) 4, zsum_4, ← zsum_add]
  refine zsum_eq _ (fun w _ => ?_)
  have e1 : N - 1 - m = d := by omega
  have e2 : N - 1 - d = m := by omega
  show zpw od d w d * (nI (10 ^ m) * (zchF (zpg f rt fr n (N - 1 - m) w (N - 1 - m)) od rt fr pr p).2 + zCs od (fun k => zLV f od rt fr pr n p N m (4 * w + k)) 4) = zlo f od rt fr pr n p N d w + (zpw od (d + 1) (4 * w) (d + 1) * _ + zpw od (d + 1) (4 * w + 1) (d + 1) * _ + zpw od (d + 1) (4 * w + 2) (d + 1) * _ + zpw od (d + 1) (4 * w + 3) (d + 1) * _)
  rw [zpw_s (show 1 < 4 by decide), zpw_s (show 2 < 4 by decide), zpw_s (show 3 < 4 by decide)]
  have e3 : zpw od (d + 1) (4 * w) (d + 1) = zpw od d w d * od 0 := zpw_s (k := 0) (show 0 < 4 by decide)
  rw [e3]
  unfold zlo
  rw [e1, e2]
  show zpw od d w d * (_ + (0 + od 0 * zLV f od rt fr pr n p N m (4 * w + 0) + od 1 * zLV f od rt fr pr n p N m (4 * w + 1) + od 2 * zLV f od rt fr pr n p N m (4 * w + 2) + od 3 * zLV f od rt fr pr n p N m (4 * w + 3))) = _
  rw [Nat.add_zero]
  generalize zLV f od rt fr pr n p N m (4 * w) = v0
  generalize zLV f od rt fr pr n p N m (4 * w + 1) = v1
  generalize zLV f od rt fr pr n p N m (4 * w + 2) = v2
  generalize zLV f od rt fr pr n p N m (4 * w + 3) = v3
  generalize zpw od d w d = P
  generalize (zchF (zpg f rt fr n d w d) od rt fr pr p).2 = T
  generalize nI (10 ^ m) = A
  grind
theorem zLV_0 {f od : Nat → Int32} {rt fr pr : Int32} {n p N d : Nat} : zsum (fun w => zpw od d w d * zLV f od rt fr pr n p N 0 w) (4 ^ d) = 0 := by
  have key : ∀ c, zsum (fun w => zpw od d w d * zLV f od rt fr pr n p N 0 w) c = 0 := by
    intro c
    induction c with
    | zero => rfl
    | succ c ih =>
      show zsum _ c + zpw od d c d * 0 = 0
      rw [ih, Int32.mul_zero, Int32.add_zero]
  exact key _
theorem zLV_all {f od : Nat → Int32} {rt fr pr : Int32} {n p N : Nat} : ∀ d, d ≤ N → zls f od rt fr pr n p N d + zsum (fun w => zpw od d w d * zLV f od rt fr pr n p N (N - d) w) (4 ^ d) = zLV f od rt fr pr n p N N 0
  | 0, _ => by
    show 0 + (0 + 1 * zLV f od rt fr pr n p N N 0) = _
    rw [Int32.zero_add, Int32.zero_add, Int32.one_mul]
  | d + 1, h => by
    rw [← zLV_all d (by omega), show N - d = (N - (d + 1)) + 1 by omega, zLV_step (by omega)]
    show zlr f od rt fr pr n p N d (zls f od rt fr pr n p N d) (4 ^ d) + _ = _
    rw [zlr_sum, Int32.add_assoc]
theorem zls_LV {f od : Nat → Int32} {rt fr pr : Int32} {n p N : Nat} : zls f od rt fr pr n p N N = zLV f od rt fr pr n p N N 0 := by
  have h := zLV_all (f := f) (od := od) (rt := rt) (fr := fr) (pr := pr) (n := n) (p := p) N (Nat.le_refl N)
  rw [Nat.sub_self, zLV_0, Int32.add_zero] at h
  exact h
theorem zls_nat {f od : Nat → Int32} {n p N q5 r5 s5 : Nat} (hn : n ≤ 5) (hp : p < n) (hv : zpv n f) (ho : zov od) (hq : q5 ≤ 9) (hr : r5 ≤ 9) (hs : s5 ≤ 9) (hN : N ≤ 3) : ∃ s, zls f od (nI q5) (nI r5) (nI s5) n p N N = nI s ∧ s < 2147483648 := by
  obtain ⟨s, h1, h2⟩ := zLV_nat hn hp hv ho hq hr hs (N := N) N 0
  refine ⟨s, by rw [zls_LV]; exact h1, ?_⟩
  rcases (show N = 0 ∨ N = 1 ∨ N = 2 ∨ N = 3 by omega) with rfl | rfl | rfl | rfl <;> omega
