/-! The reference's other pieces. -/
def zmtd (f od : Nat → Int32) (rt fr : Int32) (p : Nat) (d : Int32) : Nat → Int32
  | 0 => 0
  | k + 1 => zmtd f od rt fr p d k + od k * (rt * zsu (f (p * 4 + k)) d (f (30 + p)) (nI k) fr)
theorem zmtd_own (f od : Nat → Int32) (rt fr : Int32) (p : Nat) : ∀ k, zmtd f od rt fr p (f (25 + p)) k = zmt f od rt fr p k
  | 0 => rfl
  | k + 1 => by
    show zmtd f od rt fr p (f (25 + p)) k + _ = zmt f od rt fr p k + _
    rw [zmtd_own f od rt fr p k]; rfl
theorem zmtd_set (f od : Nat → Int32) (rt fr : Int32) {p : Nat} (hp : p < 5) (d : Int32) : ∀ k, k ≤ 4 → zmtd f od rt fr p d k = zmt (upd f (25 + p) d) od rt fr p k
  | 0, _ => rfl
  | k + 1, h => by
    show zmtd f od rt fr p d k + _ = zmt (upd f (25 + p) d) od rt fr p k + od k * (rt * zsu (upd f (25 + p) d (p * 4 + k)) (upd f (25 + p) d (25 + p)) (upd f (25 + p) d (30 + p)) (nI k) fr)
    rw [zmtd_set f od rt fr hp d k (by omega), pk_un (by omega), pk_us, pk_un (by omega)]
theorem zmtd_ch (f od : Nat → Int32) (rt fr : Int32) {p : Nat} (hp : p < 5) (k : Nat) : zmtd f od rt fr p (nI k) 4 = zmt (zchg f p (k + 1)) od rt fr p 4 := zmtd_set f od rt fr hp (nI k) 4 (Nat.le_refl 4)
theorem zmtd_g {p k : Nat} {f g od : Nat → Int32} {rt fr d : Int32} (h : zp1 p f g) (hk : k < 4) : zmtd f od rt fr p d k + (od k * rt) * zsu (g (7 * p + k)) d (g (7 * p + 6)) (nI k) fr = zmtd f od rt fr p d (k + 1) := by
  show _ = zmtd f od rt fr p d k + od k * (rt * zsu (f (p * 4 + k)) d (f (30 + p)) (nI k) fr)
  rw [h.1 k hk, h.2.2.2, Int32.mul_assoc]
theorem zoa_4 (od : Nat → Int32) : 1000 * od 0 + 100 * od 1 + 10 * od 2 + od 3 = zoa od 4 := by
  show _ = (((0 * 10 + od 0) * 10 + od 1) * 10 + od 2) * 10 + od 3
  have e : (0 : Int32) * 10 + od 0 = od 0 := by rw [Int32.zero_mul, Int32.zero_add]
  rw [e, Int32.add_mul, Int32.add_mul, Int32.add_mul, Int32.mul_assoc, Int32.mul_assoc, Int32.mul_assoc (od 1)]
  rw [show (10 : Int32) * (10 * 10) = 1000 from rfl, show (10 : Int32) * 10 = 100 from rfl, Int32.mul_comm (od 0), Int32.mul_comm (od 1), Int32.mul_comm (od 2)]
theorem zdb_T {f g : Nat → Int32} {i : Nat} (h : g (7 * i + 4) = f (20 + i)) (c : 0 ≤ g (7 * i + 4)) : zdb f i ||| 0 = zdb f (i + 1) := by
  show _ = if 0 ≤ f (20 + i) then zdb f i else zdb f i ||| zbit i
  rw [← h, if_pos c, Int32.or_zero]
theorem zdb_F {f g : Nat → Int32} {i : Nat} (h : g (7 * i + 4) = f (20 + i)) (c : ¬ 0 ≤ g (7 * i + 4)) : zdb f i ||| zbit i = zdb f (i + 1) := by
  show _ = if 0 ≤ f (20 + i) then zdb f i else zdb f i ||| zbit i
  rw [← h, if_neg c]
def zshf (b : Nat → Int32) (i : Nat) : Nat → Int32 := fun j => if j < i then b (j + 36) else b j
theorem zshf_0 (b : Nat → Int32) : zshf b 0 = b := by
  funext j; unfold zshf; rw [if_neg (Nat.not_lt_zero _)]
theorem zshf_s (b : Nat → Int32) (i : Nat) : upd (zshf b i) i (zshf b i (i + 36)) = zshf b (i + 1) := by
  have e : zshf b i (i + 36) = b (i + 36) := if_neg (by omega)
  rw [e]
  funext j; unfold upd zshf
  by_cases h1 : j = i
  · subst h1; rw [if_pos rfl, if_pos (by omega)]
  · rw [if_neg h1]
    by_cases h3 : j < i
    · rw [if_pos h3, if_pos (by omega)]
    · rw [if_neg h3, if_neg (by omega)]
theorem zcpyT_0 (g b : Nat → Int32) (s d : Nat) : va_cpy g b s d 0 = b := by
  funext j; unfold va_cpy; rw [if_neg (by omega)]
theorem zcpyT_s (g b : Nat → Int32) (s d i : Nat) : upd (va_cpy g b s d i) (d + i) (g (s + i)) = va_cpy g b s d (i + 1) := by
  funext j; unfold upd va_cpy
  by_cases h1 : j = d + i
  · subst h1; rw [if_pos rfl, if_pos (by omega)]; congr 1; omega
  · rw [if_neg h1]
    by_cases h3 : d ≤ j ∧ j < d + i
    · rw [if_pos h3, if_pos (by omega)]
    · rw [if_neg h3, if_neg (by omega)]
theorem zcpyT_s0 (g b : Nat → Int32) (d i : Nat) : upd (va_cpy g b 0 d i) (d + i) (g i) = va_cpy g b 0 d (i + 1) := by
  have h := zcpyT_s g b 0 d i
  rw [Nat.zero_add] at h; exact h
theorem zcpyT_d0 (g b : Nat → Int32) (s i : Nat) : upd (va_cpy g b s 0 i) i (g (s + i)) = va_cpy g b s 0 (i + 1) := by
  have h := zcpyT_s g b s 0 i
  rw [Nat.zero_add] at h; exact h
theorem zcpyT_00 (g b : Nat → Int32) (i : Nat) : upd (va_cpy g b 0 0 i) i (g i) = va_cpy g b 0 0 (i + 1) := by
  have h := zcpyT_s g b 0 0 i
  rw [Nat.zero_add] at h; exact h
def zna (ac : Nat) : Nat := if ac = 12 then 11 else ac
def zbk (bk : Nat → Int32) (ac : Nat) : Nat → Int32 := if ac = 12 then zshf bk 396 else bk
/-- the book behind a note -/
def znote (g bk : Nat → Int32) (ac : Nat) : Nat → Int32 := va_cpy g (zbk bk ac) 0 (36 * zna ac) 36
def zmany (x : Int32) : Nat → Int32
  | 0 => 0
  | k + 1 => zmany x k + ((x >>> (nI k &&& 31)) &&& 1)
theorem zmany_bc : ∀ v, v < 32 → zmany (nI v) 5 = zbc (nI v) := by decide +kernel
def zapa (a b : Int32) : Int32 := if b ≤ a then a - b else b - a
theorem zxa_of {x : Int32} {p : Nat} {n : Nat} (hp : p < n) (hn : n ≤ 5) (h : ¬ zhas n (nI p)) {P : Prop} : P := absurd (zhas_nat hp (by omega)) h
theorem zand1 (x : Int32) : x &&& 1 = 0 ∨ x &&& 1 = 1 := by
  obtain ⟨j, hj, h⟩ := pk_andE x (m := 1) 1 (by decide)
  rw [h]
  rcases (show j = 0 ∨ j = 1 by omega) with rfl | rfl
  · exact Or.inl rfl
  · exact Or.inr rfl
theorem zin_y {x : Int32} {q : Nat} (_ : q < 32) (h : (x >>> (nI q &&& 31)) &&& 1 = 1) : zin x q := by
  intro h2; rw [h2] at h; exact absurd h (by decide)
theorem zin_n {x : Int32} {q : Nat} (_ : q < 32) (h : ¬ (x >>> (nI q &&& 31)) &&& 1 = 1) : ¬ zin x q := by
  intro h2
  rcases zand1 (x >>> (nI q &&& 31)) with q | q
  · exact h2 q
  · exact h q
theorem zsu_a {e d h fr : Int32} {k : Nat} (hk : k < 4) (h1 : d = -9) (h2 : h = nI k) : (if 0 < 10 - e - fr then 10 - e - fr else 0) / 2 = zsu e d h (nI k) fr := by rw [zsu_m hk, if_pos h1, if_pos h2]
theorem zsu_b {e d h fr : Int32} {k : Nat} (hk : k < 4) (h1 : d = -9) (h2 : ¬ h = nI k) : (if 0 < 10 - e - fr then 10 - e - fr else 0) = zsu e d h (nI k) fr := by rw [zsu_m hk, if_pos h1, if_neg h2]
theorem zsu_c {e d h fr : Int32} {k : Nat} (hk : k < 4) (h1 : ¬ d = -9) (h2 : d = nI k) : 0 = zsu e d h (nI k) fr := by rw [zsu_m hk, if_neg h1, if_pos h2]
theorem zsu_d {e d h fr : Int32} {k : Nat} (hk : k < 4) (h1 : ¬ d = -9) (h2 : ¬ d = nI k) : 10 - fr = zsu e d h (nI k) fr := by rw [zsu_m hk, if_neg h1, if_neg h2]
theorem zps_a {y : Int32} (h : 0 ≤ y) : y = (if 0 < y then y else 0) := by
  rw [← zpos_eq, if_neg (fun q => by rw [Int32.lt_iff_toInt_lt] at q; rw [Int32.le_iff_toInt_le] at h; omega)]
theorem zps_b {y : Int32} (h : ¬ 0 ≤ y) : 0 = (if 0 < y then y else 0) := by
  rw [← zpos_eq, if_pos (Int32.not_le.mp h)]
