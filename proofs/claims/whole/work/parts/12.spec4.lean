/-! What the outer class's own static methods, Advice and Foresight do. -/
abbrev zkind (x : Int32) : Prop := ¬ x < 0 ∧ ¬ 4 ≤ x
theorem zkind_of {x : Int32} (h : zkind x) : ∃ k : Nat, k < 4 ∧ x = nI k := zhas_of (n := 4) (by decide) h
theorem zkind_nat {k : Nat} (h : k < 4) : zkind (nI k) := zhas_nat (n := 4) h (by decide)
theorem zs_l : ∀ n, n < 32 → ((nI n &&& 31).toBitVec.smod 32).toNat = n := by decide +kernel
theorem zshr {w s : Nat} (hw : w < 2 ^ 31) (hs : s < 32) : nI w >>> (nI s &&& 31) = nI (w / 2 ^ s) := pk_shrN hw (nI s &&& 31) s (zs_l s hs)
theorem zand3 {w : Nat} (hw : w < 2 ^ 32) : nI w &&& nI 3 = nI (w % 4) := pk_andN hw (m := nI 3) 2 (by decide)
theorem zkat {w s : Nat} (hw : w < 2 ^ 31) (hs : 2 * s < 32) : (nI w >>> (nI (2 * s) &&& 31)) &&& nI 3 = nI (w / 4 ^ s % 4) := by
  rw [zshr hw hs, zand3 (by have := Nat.div_le_self w (2 ^ (2 * s)); omega), Nat.pow_mul]
theorem zgcd_s {p q a b : Nat} (h : Nat.gcd p q = Nat.gcd a b) : Nat.gcd q (p % q) = Nat.gcd a b := by
  rw [Nat.gcd_comm q, ← Nat.gcd_rec, Nat.gcd_comm]; exact h
/-- the steps of Euclid's rule: each but the first halves the product -/
def zgI (i p q : Nat) : Prop := i = 0 ∧ p < 2147483648 ∧ q ≤ 1000 ∨ 0 < i ∧ q < p ∧ p < 2147483648 ∧ p * q * 2 ^ (i - 1) ≤ 2 ^ 41
theorem zgI_s {i p q : Nat} (h : zgI i p q) (hq : ¬ q = 0) : zgI (i + 1) q (p % q) := by
  have hm : p % q < q := Nat.mod_lt _ (by omega)
  rcases h with ⟨h1, h2, h3⟩ | ⟨h1, h2, h2b, h3⟩
  · right
    refine ⟨by omega, hm, by omega, ?_⟩
    subst h1
    have e1 : q * (p % q) ≤ 1000 * 1000 := Nat.mul_le_mul h3 (by omega)
    have e2 : (2 : Nat) ^ (0 + 1 - 1) = 1 := rfl
    rw [e2, Nat.mul_one]
    have : (1000 * 1000 : Nat) ≤ 2 ^ 41 := by decide
    omega
  · right
    refine ⟨by omega, hm, by omega, ?_⟩
    have e : i + 1 - 1 = (i - 1) + 1 := by omega
    rw [e, Nat.pow_succ]
    have h4 : 2 * (p % q) ≤ p := by
      have h5 := Nat.div_add_mod p q
      have h6 : 1 ≤ p / q := Nat.div_pos (by omega) (by omega)
      have h7 : q * 1 ≤ q * (p / q) := Nat.mul_le_mul_left q h6
      omega
    have h8 : q * (p % q) * 2 ≤ p * q := by
      rw [Nat.mul_assoc, Nat.mul_comm (p % q) 2, Nat.mul_comm p q]
      exact Nat.mul_le_mul_left q h4
    calc q * (p % q) * (2 ^ (i - 1) * 2) = q * (p % q) * 2 * 2 ^ (i - 1) := by rw [Nat.mul_comm (2 ^ (i - 1)) 2, ← Nat.mul_assoc]
      _ ≤ p * q * 2 ^ (i - 1) := Nat.mul_le_mul_right _ h8
      _ ≤ _ := h3
theorem zgI_end {p q : Nat} (h : zgI 64 p q) : q = 0 := by
  rcases h with ⟨h1, -, -⟩ | ⟨-, h2, -, h3⟩
  · omega
  · rcases Nat.eq_zero_or_pos q with h | h
    · exact h
    · exfalso
      have h4 : 1 ≤ p * q := Nat.mul_pos (by omega) h
      have h5 : 1 * 2 ^ (64 - 1) ≤ p * q * 2 ^ (64 - 1) := Nat.mul_le_mul_right _ h4
      have h6 : ¬ (1 * 2 ^ (64 - 1) ≤ 2 ^ 41) := by decide
      exact h6 (Nat.le_trans h5 h3)
theorem zgI_lt {i p q : Nat} (h : zgI i p q) : p < 2147483648 ∧ q < 2147483648 := by
  rcases h with ⟨-, h2, h3⟩ | ⟨-, h2, h3, -⟩ <;> omega
/-- what one pays in the mean, ten times, if it may choose: by KINDS tried so far -/
def zchg (g : Nat → Int32) (p : Nat) : Nat → Nat → Int32
  | 0 => g
  | k + 1 => upd g (25 + p) (nI k)
theorem zchg_s (g : Nat → Int32) (p k : Nat) : upd (zchg g p k) (25 + p) (nI k) = zchg g p (k + 1) := by
  cases k with
  | zero => rfl
  | succ k =>
    funext j; show (if j = 25 + p then nI (k + 1) else (if j = 25 + p then nI k else g j)) = (if j = 25 + p then nI (k + 1) else g j)
    split <;> rfl
def zch (g od : Nat → Int32) (rt fr pr : Int32) (p : Nat) : Nat → Int32 × Int32
  | 0 => (-9, zmt g od rt fr p 4)
  | k + 1 => if (zch g od rt fr pr p k).2 ≤ 10 * pr + zmt (zchg g p (k + 1)) od rt fr p 4 then zch g od rt fr pr p k else (nI k, 10 * pr + zmt (zchg g p (k + 1)) od rt fr p 4)
def zchF (g od : Nat → Int32) (rt fr pr : Int32) (p : Nat) : Int32 × Int32 := if g (25 + p) = -9 then zch g od rt fr pr p 4 else zch g od rt fr pr p 0
def zki (w d i : Nat) : Nat := w / 4 ^ (d - 1 - i) % 4
theorem zki_lt (w d i : Nat) : zki w d i < 4 := Nat.mod_lt _ (by decide)
def zpw (od : Nat → Int32) (d w : Nat) : Nat → Int32
  | 0 => 1
  | i + 1 => zpw od d w i * od (zki w d i)
def zpg (g : Nat → Int32) (rt fr : Int32) (n d w : Nat) : Nat → Nat → Int32
  | 0 => g
  | i + 1 => zcome (zpg g rt fr n d w i) rt fr n (zki w d i)
/-- one row's part of LEAST -/
def zlo (f od : Nat → Int32) (rt fr pr : Int32) (n p N d w : Nat) : Int32 := zpw od d w d * nI (10 ^ (N - 1 - d)) * (zchF (zpg f rt fr n d w d) od rt fr pr p).2
def zlr (f od : Nat → Int32) (rt fr pr : Int32) (n p N d : Nat) (x : Int32) : Nat → Int32
  | 0 => x
  | w + 1 => zlr f od rt fr pr n p N d x w + zlo f od rt fr pr n p N d w
def zls (f od : Nat → Int32) (rt fr pr : Int32) (n p N : Nat) : Nat → Int32
  | 0 => 0
  | d + 1 => zlr f od rt fr pr n p N d (zls f od rt fr pr n p N d) (4 ^ d)
def zfair (f od : Nat → Int32) (rt fr : Int32) (p k : Nat) (t : Int32) : Int32 := if od k = 0 then -9 else (10 * t + zmt f od rt fr p 4 + od k - 1) / od k
def zco (g : Nat → Int32) : Nat → Int32
  | 0 => 0
  | i + 1 => zco g i + g (20 + i)
def zjS (f : Nat → Int32) (rt fr : Int32) (n d w : Nat) : Nat → Int32
  | 0 => 0
  | i + 1 => zjS f rt fr n d w i + zcs (zpg f rt fr n d w i) rt fr (zki w d i) n
def zjZ (f : Nat → Int32) (rt fr : Int32) (n p d w : Nat) : Nat → Bool
  | 0 => true
  | i + 1 => zjZ f rt fr n p d w i && decide (ztax (zpg f rt fr n d w i) rt fr p (zki w d i) = 0)
theorem zjZ_false {f : Nat → Int32} {rt fr : Int32} {n p d w i c : Nat} (h : ¬ ztax (zpg f rt fr n d w i) rt fr p (zki w d i) = 0) (hi : i < c) : zjZ f rt fr n p d w c = false := by
  induction c with
  | zero => omega
  | succ c ih =>
    unfold zjZ
    rcases Nat.lt_or_ge i c with q | q
    · rw [ih q]; rfl
    · have e : i = c := by omega
      subst e; rw [decide_eq_false h, Bool.and_false]
theorem zjZ_s {f : Nat → Int32} {rt fr : Int32} {n p d w i : Nat} (h : zjZ f rt fr n p d w i = true) (h2 : ztax (zpg f rt fr n d w i) rt fr p (zki w d i) = 0) : zjZ f rt fr n p d w (i + 1) = true := by
  unfold zjZ; rw [h, decide_eq_true h2]; rfl
def zjo (f : Nat → Int32) (rt fr : Int32) (n p d w : Nat) : Int32 := if zjZ f rt fr n p d w d = true then zjS f rt fr n d w d else -9
def zsj (f : Nat → Int32) (rt fr : Int32) (n p d : Nat) (jr : Int32) : Nat → Int32 × Int32
  | 0 => (-9, jr)
  | w + 1 => if zjo f rt fr n p d w ≤ (zsj f rt fr n p d jr w).1 then zsj f rt fr n p d jr w else (zjo f rt fr n p d w, nI w)
theorem zsj_row {f : Nat → Int32} {rt fr : Int32} {n p d : Nat} {jr : Int32} : ∀ w, (zsj f rt fr n p d jr w).1 = -9 ∨ ∃ r, r < w ∧ (zsj f rt fr n p d jr w).2 = nI r
  | 0 => Or.inl rfl
  | w + 1 => by
    unfold zsj
    split
    · rcases zsj_row (f := f) (rt := rt) (fr := fr) (n := n) (p := p) (d := d) (jr := jr) w with h | ⟨r, h1, h2⟩
      · exact Or.inl h
      · exact Or.inr ⟨r, by omega, h2⟩
    · exact Or.inr ⟨w, by omega, rfl⟩
def zit (f : Nat → Int32) (rt fr : Int32) (n k : Nat) : Nat → Nat → Int32
  | 0 => f
  | e + 1 => zcome (zit f rt fr n k e) rt fr n k
def zeu (f : Nat → Int32) (rt fr : Int32) (n k : Nat) : Nat → Nat → Int32
  | 0, _ => -9
  | c + 1, e => if zdb (zit f rt fr n k e) n = 0 then zeu f rt fr n k c (e + 1) else nI e
def zab (x : Int32) : Int32 := if 0 ≤ x then x else 0 - x
def zcg (rt fr : Int32) (a b : Nat) : Int32 := zab (nI a - rt) + zab (nI b - fr)
def znf (f : Nat → Int32) (rt fr : Int32) (n k a : Nat) (x : Int32 × Int32) : Nat → Int32 × Int32
  | 0 => x
  | b + 1 => if (znf f rt fr n k a x b).2 ≤ zcg rt fr a b then znf f rt fr n k a x b else if zac f (nI a) (nI b) k n = true then (nI (10 * a + b), zcg rt fr a b) else znf f rt fr n k a x b
def znr (f : Nat → Int32) (rt fr : Int32) (n k : Nat) : Nat → Int32 × Int32
  | 0 => (-9, 20)
  | a + 1 => znf f rt fr n k a (znr f rt fr n k a) 10
def zdi (w d i : Nat) : Nat := w / 10 ^ (d - 1 - i) % 10
def zsg (f : Nat → Int32) (p : Nat) (sc : Int32) (d w : Nat) : Nat → Nat → Int32
  | 0 => zfg f 5
  | i + 1 => if sc = 0 then zlearn (zsg f p sc d w i) p (zdi w d i) else if sc = 2 then upd (zeo (zsg f p sc d w i) p 4) (p * 4 + zdi w d i) 10 else zsg f p sc d w i
def zss (f : Nat → Int32) (p : Nat) (fr sc : Int32) (d w : Nat) : Nat → Int32
  | 0 => 0
  | i + 1 => zss f p fr sc d w i + zsu (zsg f p sc d w i (p * 4 + zdi w d i)) (zsg f p sc d w i (25 + p)) (zsg f p sc d w i (30 + p)) (nI (zdi w d i)) fr
def zrw (w d : Nat) : Nat → Bool
  | 0 => true
  | i + 1 => zrw w d i && decide (zdi w d i < 4)
theorem zrw_false {w d i c : Nat} (h : ¬ zdi w d i < 4) (hi : i < c) : zrw w d c = false := by
  induction c with
  | zero => omega
  | succ c ih =>
    unfold zrw
    rcases Nat.lt_or_ge i c with q | q
    · rw [ih q]; rfl
    · have e : i = c := by omega
      subst e; rw [decide_eq_false h, Bool.and_false]
theorem zrw_all {w d : Nat} : ∀ {c : Nat}, zrw w d c = true → ∀ i, i < c → zdi w d i < 4
  | 0, _, i, hi => absurd hi (Nat.not_lt_zero _)
  | c + 1, h, i, hi => by
    unfold zrw at h
    rw [Bool.and_eq_true, decide_eq_true_eq] at h
    rcases Nat.lt_or_ge i c with q | q
    · exact zrw_all h.1 i q
    · have e : i = c := by omega
      subst e; exact h.2
theorem zdiv_s {w t : Nat} : w / 10 ^ t / 10 = w / 10 ^ (t + 1) := by rw [Nat.div_div_eq_div_mul, Nat.pow_succ]
theorem zdiv_lt {w t : Nat} (h : w < 2147483648) : w / t < 2147483648 := Nat.lt_of_le_of_lt (Nat.div_le_self _ _) h
theorem z_dec1 {i : Nat} (h : 1 ≤ i) : nI i + Int32.ofInt (-1) = nI (i - 1) := by
  obtain ⟨j, rfl⟩ : ∃ j, i = j + 1 := ⟨i - 1, by omega⟩
  exact pk_m1 j
theorem znf_s (f : Nat → Int32) (rt fr : Int32) (n k a : Nat) (x : Int32 × Int32) (b : Nat) : znf f rt fr n k a x (b + 1) = if (znf f rt fr n k a x b).2 ≤ zcg rt fr a b then znf f rt fr n k a x b else if zac f (nI a) (nI b) k n = true then (nI (10 * a + b), zcg rt fr a b) else znf f rt fr n k a x b := rfl
theorem zsg_s (f : Nat → Int32) (p : Nat) (sc : Int32) (d w i : Nat) : zsg f p sc d w (i + 1) = if sc = 0 then zlearn (zsg f p sc d w i) p (zdi w d i) else if sc = 2 then upd (zeo (zsg f p sc d w i) p 4) (p * 4 + zdi w d i) 10 else zsg f p sc d w i := rfl
theorem zeu_s (f : Nat → Int32) (rt fr : Int32) (n k c e : Nat) : zeu f rt fr n k (c + 1) e = if zdb (zit f rt fr n k e) n = 0 then zeu f rt fr n k c (e + 1) else nI e := rfl
theorem zch_s (g od : Nat → Int32) (rt fr pr : Int32) (p k : Nat) : zch g od rt fr pr p (k + 1) = if (zch g od rt fr pr p k).2 ≤ 10 * pr + zmt (zchg g p (k + 1)) od rt fr p 4 then zch g od rt fr pr p k else (nI k, 10 * pr + zmt (zchg g p (k + 1)) od rt fr p 4) := rfl
theorem zsj_s (f : Nat → Int32) (rt fr : Int32) (n p d : Nat) (jr : Int32) (w : Nat) : zsj f rt fr n p d jr (w + 1) = if zjo f rt fr n p d w ≤ (zsj f rt fr n p d jr w).1 then zsj f rt fr n p d jr w else (zjo f rt fr n p d w, nI w) := rfl
theorem z02 {sc : Int32} {P : Prop} (h : sc = 0) (h2 : sc = 2) : P := by rw [h] at h2; exact absurd h2 (by decide)
