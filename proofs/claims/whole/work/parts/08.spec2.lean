/-! What Realm's methods do. -/
abbrev zhas (n : Nat) (x : Int32) : Prop := ¬ x < 0 ∧ ¬ nI n ≤ x
theorem zhas_of {n : Nat} {x : Int32} (hn : n < 2 ^ 31) (h : zhas n x) : ∃ p : Nat, p < n ∧ x = nI p := by
  rcases pk_ix x hn with h1 | h1 | ⟨j, h1, h2⟩
  · exact absurd h1 h.1
  · exact absurd h1 h.2
  · exact ⟨j, h1, h2⟩
theorem zhas_nat {n p : Nat} (hp : p < n) (hn : n < 2 ^ 31) : zhas n (nI p) := ⟨nI_pos (by omega), nI_ge hp hn⟩
def zbit (j : Nat) : Int32 := 1 <<< (nI j &&& 31)
def zev (n : Nat) : Int32 := (1 <<< (nI n &&& 31)) - 1
abbrev zin (s : Int32) (q : Nat) : Prop := ¬ ((s >>> (nI q &&& 31)) &&& 1 = 0)
def zren (n : Nat) (rd : Nat → Int32) (p : Nat) : Int32 := (zev n &&& (rd p ^^^ -1)) &&& (zbit p ^^^ -1)
def zre (n : Nat) (rd : Nat → Int32) (x : Int32) : Int32 := if zhas n x then zren n rd x.toNatClampNeg else 0
theorem zre_nat {n p : Nat} {rd : Nat → Int32} (hp : p < n) (hn : n < 2 ^ 31) : zre n rd (nI p) = zren n rd p := by
  unfold zre; rw [if_pos (zhas_nat hp hn), nI_clamp (by omega)]
def zrs (n : Nat) (rd : Nat → Int32) : Nat → Int32
  | 0 => 0
  | i + 1 => if zren n rd i = 0 then zrs n rd i else zrs n rd i ||| zbit i
def zoa (od : Nat → Int32) : Nat → Int32
  | 0 => 0
  | i + 1 => zoa od i * 10 + od i
def zbc1 (x : Int32) : Int32 := x - ((x.toUInt32 >>> ((1 : Int32).toUInt32 &&& Int32.toUInt32 31)).toInt32 &&& 1431655765)
def zbc2 (x : Int32) : Int32 := (x &&& 858993459) + ((x.toUInt32 >>> ((2 : Int32).toUInt32 &&& Int32.toUInt32 31)).toInt32 &&& 858993459)
def zbc3 (x : Int32) : Int32 := (x + (x.toUInt32 >>> ((4 : Int32).toUInt32 &&& Int32.toUInt32 31)).toInt32) &&& 252645135
def zbc4 (x : Int32) : Int32 := x + (x.toUInt32 >>> ((8 : Int32).toUInt32 &&& Int32.toUInt32 31)).toInt32
def zbc5 (x : Int32) : Int32 := x + (x.toUInt32 >>> ((16 : Int32).toUInt32 &&& Int32.toUInt32 31)).toInt32
/-- Integer.bitCount -/
def zbc (x : Int32) : Int32 := zbc5 (zbc4 (zbc3 (zbc2 (zbc1 x)))) &&& 63
def zbok (rd nv : Nat → Int32) (s : Int32) (i : Nat) : Bool := decide (zbc (rd i &&& s) < nv i) == decide ((s >>> (nI i &&& 31)) &&& 1 = 0)
def zbr (rd nv : Nat → Int32) (s : Int32) : Nat → Bool
  | 0 => true
  | i + 1 => zbr rd nv s i && zbok rd nv s i
theorem zbr_false {rd nv : Nat → Int32} {s : Int32} {i n : Nat} (h : zbok rd nv s i = false) (hi : i < n) : zbr rd nv s n = false := by
  induction n with
  | zero => omega
  | succ n ih =>
    unfold zbr
    rcases Nat.lt_or_ge i n with q | q
    · rw [ih q]; rfl
    · have e : i = n := by omega
      subst e; rw [h, Bool.and_false]
def zdb (f : Nat → Int32) : Nat → Int32
  | 0 => 0
  | i + 1 => if 0 ≤ f (20 + i) then zdb f i else zdb f i ||| zbit i
def ztax (f : Nat → Int32) (rt fr : Int32) (p k : Nat) : Int32 := rt * zsu (f (p * 4 + k)) (f (25 + p)) (f (30 + p)) (nI k) fr
def zac (f : Nat → Int32) (rt fr : Int32) (k : Nat) : Nat → Bool
  | 0 => true
  | i + 1 => zac f rt fr k i && decide (ztax f rt fr i k ≤ f (20 + i))
theorem zac_false {f : Nat → Int32} {rt fr : Int32} {k i n : Nat} (h : ¬ ztax f rt fr i k ≤ f (20 + i)) (hi : i < n) : zac f rt fr k n = false := by
  induction n with
  | zero => omega
  | succ n ih =>
    unfold zac
    rcases Nat.lt_or_ge i n with q | q
    · rw [ih q]; rfl
    · have e : i = n := by omega
      subst e; rw [decide_eq_false h, Bool.and_false]
def zmt (f od : Nat → Int32) (rt fr : Int32) (p : Nat) : Nat → Int32
  | 0 => 0
  | k + 1 => zmt f od rt fr p k + od k * ztax f rt fr p k
def zcm (f : Nat → Int32) (rt fr : Int32) (k : Nat) : Nat → Nat → Int32
  | 0 => f
  | i + 1 => zlearn (upd (zcm f rt fr k i) (20 + i) (zcm f rt fr k i (20 + i) - ztax (zcm f rt fr k i) rt fr i k)) i k
def zcs (f : Nat → Int32) (rt fr : Int32) (k : Nat) : Nat → Int32
  | 0 => 0
  | i + 1 => zcs f rt fr k i + ztax (zcm f rt fr k i) rt fr i k
/-- the page behind an event -/
def zcome (f : Nat → Int32) (rt fr : Int32) (n k : Nat) : Nat → Int32 := zfg (upd (zcm f rt fr k n) 35 (zcm f rt fr k n 35 + 1)) 5
def zdr (x : Int64) : Int32 := ((x.toUInt64 >>> ((33 : Int32).toInt64.toUInt64 &&& Int64.toUInt64 63)).toInt64 - (x.toUInt64 >>> ((33 : Int32).toInt64.toUInt64 &&& Int64.toUInt64 63)).toInt64 / 10 * 10).toInt32
def zos (od : Nat → Int32) : Nat → Int32
  | 0 => 0
  | k + 1 => zos od k + od k
def zdw (od : Nat → Int32) (dr : Int32) : Nat := if ¬ zos od 1 ≤ dr then 0 else if ¬ zos od 2 ≤ dr then 1 else if ¬ zos od 3 ≤ dr then 2 else 3
theorem zdw_lt (od : Nat → Int32) (dr : Int32) : zdw od dr < 4 := by
  unfold zdw; split
  · omega
  · split
    · omega
    · split <;> omega
theorem zdw_eq {od : Nat → Int32} {dr : Int32} {k : Nat} (hk : k < 4) (h : ∀ j, j < k → zos od (j + 1) ≤ dr) (h2 : ¬ zos od (k + 1) ≤ dr) : zdw od dr = k := by
  unfold zdw
  match k, hk with
  | 0, _ => rw [if_pos h2]
  | 1, _ => rw [if_neg (fun q => q (h 0 (by decide))), if_pos h2]
  | 2, _ => rw [if_neg (fun q => q (h 0 (by decide))), if_neg (fun q => q (h 1 (by decide))), if_pos h2]
  | 3, _ => rw [if_neg (fun q => q (h 0 (by decide))), if_neg (fun q => q (h 1 (by decide))), if_neg (fun q => q (h 2 (by decide)))]
theorem zdw_3 {od : Nat → Int32} {dr : Int32} (h : ∀ j, j < 4 → zos od (j + 1) ≤ dr) : zdw od dr = 3 := by
  unfold zdw
  rw [if_neg (fun q => q (h 0 (by decide))), if_neg (fun q => q (h 1 (by decide))), if_neg (fun q => q (h 2 (by decide)))]
