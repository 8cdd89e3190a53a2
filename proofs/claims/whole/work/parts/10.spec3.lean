/-! What Acts', Slots' and Rolls' methods do. -/
def znx (i : Nat) : Nat := if i + 1 < 12 then i + 1 else 0
def zcn (i : Nat) : Nat := if i + 1 < 12 then i + 1 else 12
def zpx (i : Nat) : Nat := if i ≤ 0 then 11 else i - 1
theorem zcn_eq {i : Nat} (h : i ≤ 12) : (if nI (i + 1) < 12 then nI (i + 1) else 12) = nI (zcn i) := by
  unfold zcn
  by_cases q : i + 1 < 12
  · have h2 : nI (i + 1) < (12 : Int32) := nI_lt (b := 12) q (by decide)
    rw [if_pos q, if_pos h2]
  · have h2 : ¬ nI (i + 1) < (12 : Int32) := nI_nlt (b := 12) (by omega) (by omega)
    rw [if_neg q, if_neg h2]; rfl
def zop (f : Nat → Int32) : Nat → Int32
  | 0 => 0
  | i + 1 => if f (25 + i) = -9 ∧ f (30 + i) = -9 then zop f i ||| zbit i else zop f i
def zopN (f : Nat → Int32) : Nat → Nat
  | 0 => 0
  | i + 1 => if f (25 + i) = -9 ∧ f (30 + i) = -9 then zopN f i + 2 ^ i else zopN f i
theorem zopN_lt (f : Nat → Int32) : ∀ i, zopN f i < 2 ^ i
  | 0 => by show 0 < 1; decide
  | i + 1 => by
    have h := zopN_lt f i
    unfold zopN
    rw [Nat.pow_succ]
    split <;> omega
theorem zor_bit : ∀ i, i < 5 → ∀ a, a < 2 ^ i → nI a ||| zbit i = nI (a + 2 ^ i) := by decide +kernel
theorem zop_nat (f : Nat → Int32) : ∀ i, i ≤ 5 → zop f i = nI (zopN f i)
  | 0, _ => rfl
  | i + 1, h => by
    have ih := zop_nat f i (by omega)
    unfold zop zopN
    rw [ih]
    split
    · exact zor_bit i (by omega) _ (zopN_lt f i)
    · rfl
def zfi (pw pd f : Nat → Int32) (rt fr : Int32) (n k w i : Nat) : Bool :=
  if zhas n (pw i) then decide (pd i = if (nI w >>> (pw i &&& 31)) &&& 1 = 0 then ztax f rt fr (pw i).toNatClampNeg k else 0) else true
theorem zfi_p {pw pd f : Nat → Int32} {rt fr : Int32} {n k w i p : Nat} (hw : pw i = nI p) (hp : p < n) (hn : n < 2 ^ 31) :
    zfi pw pd f rt fr n k w i = decide (pd i = if (nI w >>> (nI p &&& 31)) &&& 1 = 0 then ztax f rt fr p k else 0) := by
  unfold zfi; rw [hw, if_pos (zhas_nat hp hn), nI_clamp (by omega)]
theorem zfi_n {pw pd f : Nat → Int32} {rt fr : Int32} {n k w i : Nat} (h : ¬ zhas n (pw i)) : zfi pw pd f rt fr n k w i = true := if_neg h
def zfit (pw pd f : Nat → Int32) (rt fr : Int32) (n k w : Nat) : Nat → Bool
  | 0 => true
  | i + 1 => zfit pw pd f rt fr n k w i && zfi pw pd f rt fr n k w i
theorem zfit_s {pw pd f : Nat → Int32} {rt fr : Int32} {n k w i : Nat} (h : zfit pw pd f rt fr n k w i = true) (h2 : zfi pw pd f rt fr n k w i = true) : zfit pw pd f rt fr n k w (i + 1) = true := by
  unfold zfit; rw [h, h2]; rfl
theorem zfit_false {pw pd f : Nat → Int32} {rt fr : Int32} {n k w i c : Nat} (h : zfi pw pd f rt fr n k w i = false) (hi : i < c) : zfit pw pd f rt fr n k w c = false := by
  induction c with
  | zero => omega
  | succ c ih =>
    unfold zfit
    rcases Nat.lt_or_ge i c with q | q
    · rw [ih q]; rfl
    · have e : i = c := by omega
      subst e; rw [h, Bool.and_false]
abbrev zX : Type := Int32 × Int32 × Int32
def zts (ok : Bool) (k w : Nat) (x : zX) : zX := if ok = true then (x.1 + 1, x.2.1 ||| zbit k, x.2.2 &&& nI w) else x
def zokc (pw pd f : Nat → Int32) (rt fr : Int32) (n c ow k w : Nat) : Bool := decide (nI w &&& (nI ow ^^^ -1) = 0) && zfit pw pd f rt fr n k w c
def ztw (ok : Nat → Bool) (k : Nat) (x : zX) : Nat → zX
  | 0 => x
  | w + 1 => zts (ok w) k w (ztw ok k x w)
def ztk (ok : Nat → Nat → Bool) (ow : Nat) (x : zX) : Nat → zX
  | 0 => x
  | k + 1 => ztw (ok k) k (ztk ok ow x k) (ow + 1)
def ztal (pw pd f : Nat → Int32) (rt fr : Int32) (n c ow : Nat) : zX := ztk (zokc pw pd f rt fr n c ow) ow (0, 0, nI ow) 4
theorem ztw_no {ok : Nat → Bool} {k w : Nat} {x : zX} (h : ok w = false) : ztw ok k x (w + 1) = ztw ok k x w := by
  show zts (ok w) k w (ztw ok k x w) = _
  rw [h]; rfl
theorem ztw_yes {ok : Nat → Bool} {k w : Nat} {x : zX} (h : ok w = true) : ztw ok k x (w + 1) = ((ztw ok k x w).1 + 1, (ztw ok k x w).2.1 ||| zbit k, (ztw ok k x w).2.2 &&& nI w) := by
  show zts (ok w) k w (ztw ok k x w) = _
  rw [h]; rfl
theorem zokc_yes {pw pd f : Nat → Int32} {rt fr : Int32} {n c ow k w : Nat} (h : nI w &&& (nI ow ^^^ -1) = 0) (h2 : zfit pw pd f rt fr n k w c = true) : zokc pw pd f rt fr n c ow k w = true := by
  unfold zokc; rw [decide_eq_true h, h2]; rfl
theorem zokc_no1 {pw pd f : Nat → Int32} {rt fr : Int32} {n c ow k w : Nat} (h : ¬ (nI w &&& (nI ow ^^^ -1) = 0)) : zokc pw pd f rt fr n c ow k w = false := by
  unfold zokc; rw [decide_eq_false h]; rfl
theorem zokc_no2 {pw pd f : Nat → Int32} {rt fr : Int32} {n c ow k w : Nat} (h2 : ¬ zfit pw pd f rt fr n k w c = true) : zokc pw pd f rt fr n c ow k w = false := by
  unfold zokc; rw [Bool.eq_false_iff.mpr h2, Bool.and_false]
