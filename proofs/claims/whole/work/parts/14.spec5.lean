/-! The outer methods' refusals: functions by cases of the arguments. -/
def zPa {α : Type} (n : Nat) (x : Int32) (F : Nat → α) (b : α) : α := if zhas n x then F x.toNatClampNeg else b
theorem zPa_n {α : Type} {n : Nat} {x : Int32} {F : Nat → α} {b : α} (h : ¬ zhas n x) : zPa n x F b = b := if_neg h
theorem zPa_y {α : Type} {n p : Nat} {F : Nat → α} {b : α} (hp : p < n) (hn : n ≤ 5) : zPa n (nI p) F b = F p := by
  unfold zPa; rw [if_pos (zhas_nat hp (by omega)), nI_clamp (by omega)]
def zKa {α : Type} (x : Int32) (F : Nat → α) (b : α) : α := if zkind x then F x.toNatClampNeg else b
theorem zKa_n {α : Type} {x : Int32} {F : Nat → α} {b : α} (h : ¬ zkind x) : zKa x F b = b := if_neg h
theorem zKa_y {α : Type} {k : Nat} {F : Nat → α} {b : α} (hk : k < 4) : zKa (nI k) F b = F k := by
  unfold zKa; rw [if_pos (zkind_nat hk), nI_clamp (by omega)]
/-- x in lo .. hi -/
def zRa {α : Type} (lo hi : Nat) (x : Int32) (F : Nat → α) (b : α) : α := if ¬ x < nI lo ∧ x ≤ nI hi then F x.toNatClampNeg else b
theorem zRa_lo {α : Type} {lo hi : Nat} {x : Int32} {F : Nat → α} {b : α} (h : x < nI lo) : zRa lo hi x F b = b := if_neg (fun q => q.1 h)
theorem zRa_hi {α : Type} {lo hi : Nat} {x : Int32} {F : Nat → α} {b : α} (h : ¬ x ≤ nI hi) : zRa lo hi x F b = b := if_neg (fun q => h q.2)
theorem zRa_y {α : Type} {lo hi k : Nat} {F : Nat → α} {b : α} (h1 : lo ≤ k) (h2 : k ≤ hi) (h : hi < 1000) : zRa lo hi (nI k) F b = F k := by
  unfold zRa; rw [if_pos ⟨nI_nlt h1 (by omega), nI_le h2 (by omega)⟩, nI_clamp (by omega)]
theorem zRa_of {lo hi : Nat} {x : Int32} (h : hi < 1000) (h3 : lo < 1000) (h1 : ¬ x < nI lo) (h2 : x ≤ nI hi) : ∃ k : Nat, lo ≤ k ∧ k ≤ hi ∧ x = nI k := by
  have h0 : ¬ x < 0 := by
    intro q
    rw [Int32.lt_iff_toInt_lt] at q h1
    rw [nI_toInt (by omega)] at h1
    have : (0 : Int32).toInt = 0 := rfl
    omega
  obtain ⟨j, hj, rfl⟩ := nI_of h0
  refine ⟨j, ?_, (nI_leI hj (by omega)).mp h2, rfl⟩
  rcases Nat.lt_or_ge j lo with q | q
  · exact absurd (nI_lt q (by omega)) h1
  · exact q
abbrev zirow (d : Nat) (x : Int32) : Prop := ¬ x < 0 ∧ x < nI (10 ^ d) ∧ zrw x.toNatClampNeg d d = true
theorem zirow_nat {d w : Nat} (hw : w < 2147483648) (hd : d ≤ 8) : zirow d (nI w) ↔ w < 10 ^ d ∧ zrw w d d = true := by
  have h10 : 10 ^ d ≤ 100000000 := (Nat.pow_le_pow_right (show 0 < 10 by decide) hd : 10 ^ d ≤ 10 ^ 8)
  unfold zirow
  rw [nI_clamp hw]
  constructor
  · intro h; exact ⟨(nI_ltI hw (by omega)).mp h.2.1, h.2.2⟩
  · intro h; exact ⟨nI_pos hw, (nI_ltI hw (by omega)).mpr h.1, h.2⟩
theorem zkind_lt {v : Nat} (h : zkind (nI v)) (hv : v < 2147483648) : v < 4 := by
  rcases Nat.lt_or_ge v 4 with q | q
  · exact q
  · exact absurd (nI_le (a := 4) q hv) h.2
def zwrO (len : Nat) (x : Int32) : Prop := (¬ x < 0 ∧ x ≤ 255) ∧ len < 64
/-- about's answers -/
def zabt (x v0 v1 v2 v3 v4 v5 v6 v7 v8 v9 v10 : Int32) : Int32 := if x = 0 then v0 else if x = 1 then v1 else if x = 2 then v2 else if x = 3 then v3 else if x = 4 then v4 else if x = 5 then v5 else if x = 6 then v6 else if x = 7 then v7 else if x = 8 then v8 else if x = 9 then v9 else if x = 10 then v10 else -2
theorem z_out0_10 {x : Int32} (h0 : ¬ x = 0) (h1 : ¬ x = 1) (h2 : ¬ x = 2) (h3 : ¬ x = 3) (h4 : ¬ x = 4) (h5 : ¬ x = 5) (h6 : ¬ x = 6) (h7 : ¬ x = 7) (h8 : ¬ x = 8) (h9 : ¬ x = 9) (h10 : ¬ x = 10) : x.toInt < 0 ∨ (10 : Int) < x.toInt := by
  have key : ∀ (v : Int32), ¬ x = v → ¬ x.toInt = v.toInt := fun v h q => h (Int32.toInt_inj.mp q)
  have a0 := key 0 h0; have a1 := key 1 h1; have a2 := key 2 h2; have a3 := key 3 h3; have a4 := key 4 h4; have a5 := key 5 h5; have a6 := key 6 h6; have a7 := key 7 h7; have a8 := key 8 h8; have a9 := key 9 h9; have a10 := key 10 h10
  simp only [show (0 : Int32).toInt = 0 from rfl, show (1 : Int32).toInt = 1 from rfl, show (2 : Int32).toInt = 2 from rfl, show (3 : Int32).toInt = 3 from rfl, show (4 : Int32).toInt = 4 from rfl, show (5 : Int32).toInt = 5 from rfl, show (6 : Int32).toInt = 6 from rfl, show (7 : Int32).toInt = 7 from rfl, show (8 : Int32).toInt = 8 from rfl, show (9 : Int32).toInt = 9 from rfl, show (10 : Int32).toInt = 10 from rfl] at *
  omega
theorem z_out4_8 {x : Int32} (h4 : ¬ x = 4) (h5 : ¬ x = 5) (h6 : ¬ x = 6) (h7 : ¬ x = 7) (h8 : ¬ x = 8) : x.toInt < 4 ∨ (8 : Int) < x.toInt := by
  have key : ∀ (v : Int32), ¬ x = v → ¬ x.toInt = v.toInt := fun v h q => h (Int32.toInt_inj.mp q)
  have a4 := key 4 h4; have a5 := key 5 h5; have a6 := key 6 h6; have a7 := key 7 h7; have a8 := key 8 h8
  simp only [show (4 : Int32).toInt = 4 from rfl, show (5 : Int32).toInt = 5 from rfl, show (6 : Int32).toInt = 6 from rfl, show (7 : Int32).toInt = 7 from rfl, show (8 : Int32).toInt = 8 from rfl] at *
  omega
/-- person's answers -/
def zprs (f nv rd : Nat → Int32) (p : Nat) (x : Int32) : Int32 := zKa x (fun k => f (p * 4 + k)) (if x = 4 then f (20 + p) + 100000 else if x = 5 then nv p else if x = 6 then f (25 + p) else if x = 7 then f (30 + p) else if x = 8 then rd p else -2)
def zb3 (x a b c : Int32) : Int32 := if x = 0 then a else if x = 1 then b else c
def zbrn (rd nv : Nat → Int32) (n : Nat) : Nat → Int32 × Int32 × Int32
  | 0 => (0, -9, -9)
  | s + 1 => if zbr rd nv (nI s) n = true then ((zbrn rd nv n s).1 + 1, if (zbrn rd nv n s).2.1 = -9 then nI s else (zbrn rd nv n s).2.1, nI s) else zbrn rd nv n s
theorem zbrn_y {rd nv : Nat → Int32} {n s : Nat} (h : zbr rd nv (nI s) n = true) : zbrn rd nv n (s + 1) = ((zbrn rd nv n s).1 + 1, if (zbrn rd nv n s).2.1 = -9 then nI s else (zbrn rd nv n s).2.1, nI s) := if_pos h
theorem zbrn_n {rd nv : Nat → Int32} {n s : Nat} (h : ¬ zbr rd nv (nI s) n = true) : zbrn rd nv n (s + 1) = zbrn rd nv n s := if_neg h
theorem zev_nat : ∀ n, n ≤ 5 → zev n = nI (2 ^ n - 1) := by decide +kernel
def zfrac (u : Int32) (a b : Nat) : Int32 := if u = 0 then nI (b / Nat.gcd a b) else nI (a / Nat.gcd a b)
def zwkS (s : Int64) : Nat → Int64
  | 0 => s
  | i + 1 => zwkS s i * 6364136223846793005 + 1442695040888963407
def zwkG (od f : Nat → Int32) (rt fr : Int32) (n : Nat) (s : Int64) : Nat → Nat → Int32
  | 0 => f
  | i + 1 => zcome (zwkG od f rt fr n s i) rt fr n (zdw od (zdr (zwkS s (i + 1))))
theorem zdcl {f : Nat → Int32} {p : Nat} {v w : Int32} : upd (upd f (20 + p) v) (25 + p) w (20 + p) = v := by
  rw [pk_un (by omega), pk_us]
abbrev zTO (f rd : Nat → Int32) (p q : Nat) : Prop := ¬ f (25 + p) = -9 ∧ zin (rd p) q ∧ (f (25 + q) = -9 ∧ f (30 + q) = -9)
theorem zsj_jr {f : Nat → Int32} {rt fr : Int32} {n p d : Nat} {jr j2 : Int32} : ∀ w, (zsj f rt fr n p d jr w).1 = (zsj f rt fr n p d j2 w).1 ∧ ((zsj f rt fr n p d jr w).1 = -9 ∨ (zsj f rt fr n p d jr w).2 = (zsj f rt fr n p d j2 w).2)
  | 0 => ⟨rfl, Or.inl rfl⟩
  | w + 1 => by
    have ih := zsj_jr (f := f) (rt := rt) (fr := fr) (n := n) (p := p) (d := d) (jr := jr) (j2 := j2) w
    rw [zsj_s, zsj_s, ← ih.1]
    split
    · exact ⟨ih.1, ih.2⟩
    · exact ⟨rfl, Or.inr rfl⟩
def zJA (f : Nat → Int32) (rt fr : Int32) (n p d : Nat) (x : Int32) : Int32 := if zhas d x then (if (zsj f rt fr n p d 0 (4 ^ d)).1 = -9 then -9 else nI (zki (zsj f rt fr n p d 0 (4 ^ d)).2.toNatClampNeg d x.toNatClampNeg)) else -9
def zsco (f : Nat → Int32) (fr : Int32) (p : Nat) (sc : Int32) (d : Nat) (x : Int32) : Int32 := if zirow d x then zss f p fr sc d x.toNatClampNeg d else -2
theorem zp10 {N : Nat} (h1 : 1 ≤ N) (h3 : N ≤ 3) : 10 ^ N ≤ 1000 ∧ 0 < 10 ^ N := ⟨(Nat.pow_le_pow_right (show 0 < 10 by decide) h3 : 10 ^ N ≤ 10 ^ 3), Nat.pow_pos (by decide)⟩
theorem zp4 {d : Nat} (h : d ≤ 4) : 4 ^ d ≤ 256 := (Nat.pow_le_pow_right (show 0 < 4 by decide) h : 4 ^ d ≤ 4 ^ 4)
theorem zp2 {n : Nat} (h : n ≤ 5) : 2 ^ n ≤ 32 ∧ 0 < 2 ^ n := ⟨(Nat.pow_le_pow_right (show 0 < 2 by decide) h : 2 ^ n ≤ 2 ^ 5), Nat.pow_pos (by decide)⟩
theorem zb3n {w j : Nat} (hw : w < 2147483648) (hj : j < 2147483648) (h : ¬ w = j) : ¬ nI w = nI j := fun q => h (zeq hw hj q)
theorem zb3_0 {w : Nat} {a b c : Int32} (h : w = 0) : zb3 (nI w) a b c = a := by subst h; rfl
theorem zb3_1 {w : Nat} {a b c : Int32} (h : w = 1) : zb3 (nI w) a b c = b := by subst h; rfl
theorem zb3_2 {w : Nat} {a b c : Int32} (h : ¬ w = 0) (h2 : ¬ w = 1) (hw : w ≤ 2) : zb3 (nI w) a b c = c := by
  have e : w = 2 := by omega
  subst e; rfl
