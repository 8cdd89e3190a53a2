/-! What the class's small methods do, as functions of rows. -/
theorem zD_fst {A : Nat → Prop} {w w' : va_W} (h : w'.map Prod.fst = w.map Prod.fst) (hD : va_D A w) : va_D A w' := by
  have key : ∀ (k : Nat) (x : Nat × va_E), w'[k]? = some x → ∃ y, w[k]? = some y ∧ y.1 = x.1 := fun k x hx => z_fst h.symm k x hx
  refine ⟨fun i j x y hi hj hxy => ?_, fun k x hx => ?_⟩
  · obtain ⟨a, ha, ha1⟩ := key i x hi
    obtain ⟨b, hb, hb1⟩ := key j y hj
    exact hD.1 i j a b ha hb (by rw [ha1, hb1, hxy])
  · obtain ⟨y, h2, h3⟩ := key k x hx
    rw [← h3]; exact hD.2 k y h2
theorem zD_of {A : Nat → Prop} {w w' : va_W} (hD : va_D A w) (h : w'.map Prod.fst = w.map Prod.fst) : va_D A w' := zD_fst h hD
theorem z_arrV {cA : ClassId} {n : Nat} {f g : Nat → Value} (h : ∀ j, j < n → f j = g j) : arrV cA n f = arrV cA n g := by
  have e : (fun j : Fin n => f j.val) = (fun j : Fin n => g j.val) := funext (fun j => h j.val j.isLt)
  unfold arrV; rw [e]
/-- beyond its length a row's picture says nothing -/
theorem z_arr {D : va_G} {cl : List vw_C} {w : va_W} {H : Heap} {a : Nat} {cA : ClassId} {n : Nat} {f g : Nat → Int32} (q0 : Nat) (ha : w[q0]? = some (a, .inl (cA, n, .inl f))) (h : ∀ j, j < n → f j = g j) (hP : va_P D cl w H) : va_P D cl (w.set q0 (a, .inl (cA, n, .inl g))) H := by
  have hl := (List.getElem?_eq_some_iff.mp ha).1
  intro k q hk
  by_cases hkp : k = q0
  · subst hkp
    rw [List.getElem?_set_self hl] at hk
    cases hk
    have h0 := hP k _ ha
    show H[a]? = some (vp_cell cA (n, .inl g))
    have h1 : H[a]? = some (vp_cell cA (n, .inl f)) := h0
    rw [h1, vp_cell_i, vp_cell_i, z_arrV (fun j hj => by rw [h j hj])]
  · rw [List.getElem?_set_ne (Ne.symm hkp)] at hk
    exact hP k q hk
theorem zcpy_in {f g : Nat → Int32} {j : Nat} (h : j < 36) : va_cpy f g 0 0 36 j = f j := by
  unfold va_cpy; rw [if_pos ⟨Nat.zero_le _, by omega⟩]; congr 1; omega
theorem nI_one : nI 1 = 1 := rfl
theorem nI_zero : nI 0 = 0 := rfl
def zfg (f : Nat → Int32) (i : Nat) : Nat → Int32 := fun j => if (25 ≤ j ∧ j < 25 + i) ∨ (30 ≤ j ∧ j < 30 + i) then -9 else f j
theorem zfg_0 (f : Nat → Int32) : zfg f 0 = f := by
  funext j; unfold zfg; rw [if_neg (by omega)]
theorem zfg_s (f : Nat → Int32) (i : Nat) : upd (upd (zfg f i) (25 + i) (-9)) (30 + i) (-9) = zfg f (i + 1) := by
  funext j; unfold upd zfg
  by_cases h1 : j = 30 + i
  · rw [if_pos h1, if_pos (by omega)]
  · rw [if_neg h1]
    by_cases h2 : j = 25 + i
    · rw [if_pos h2, if_pos (by omega)]
    · rw [if_neg h2]
      by_cases h3 : (25 ≤ j ∧ j < 25 + i) ∨ (30 ≤ j ∧ j < 30 + i)
      · rw [if_pos h3, if_pos (by omega)]
      · rw [if_neg h3, if_neg (by omega)]
def zcl (f : Nat → Int32) (i : Nat) : Nat → Int32 := fun j => if j < i then 0 else f j
theorem zcl_0 (f : Nat → Int32) : zcl f 0 = f := by
  funext j; unfold zcl; rw [if_neg (by omega)]
theorem zcl_s (f : Nat → Int32) (i : Nat) : upd (zcl f i) i 0 = zcl f (i + 1) := by
  funext j; unfold upd zcl
  by_cases h1 : j = i
  · rw [if_pos h1, if_pos (by omega)]
  · rw [if_neg h1]
    by_cases h3 : j < i
    · rw [if_pos h3, if_pos (by omega)]
    · rw [if_neg h3, if_neg (by omega)]
def zeo (f : Nat → Int32) (p i : Nat) : Nat → Int32 := fun j => if p * 4 ≤ j ∧ j < p * 4 + i then 0 else f j
theorem zeo_0 (f : Nat → Int32) (p : Nat) : zeo f p 0 = f := by
  funext j; unfold zeo; rw [if_neg (by omega)]
theorem zeo_s (f : Nat → Int32) (p i : Nat) : upd (zeo f p i) (p * 4 + i) 0 = zeo f p (i + 1) := by
  funext j; unfold upd zeo
  by_cases h1 : j = p * 4 + i
  · rw [if_pos h1, if_pos (by omega)]
  · rw [if_neg h1]
    by_cases h3 : p * 4 ≤ j ∧ j < p * 4 + i
    · rw [if_pos h3, if_pos (by omega)]
    · rw [if_neg h3, if_neg (by omega)]
/-- surprise of one: e expected, d declared, h heard, of kind k -/
def zsu (e d h k free : Int32) : Int32 := if d = k then 0 else if d = -9 then (if h = k then (if 0 < 10 - e - free then 10 - e - free else 0) / 2 else (if 0 < 10 - e - free then 10 - e - free else 0)) else 10 - free
def zmf (k : Nat) : Nat := if k = 0 then 1 else 0
theorem zmf_le (k : Nat) : zmf k ≤ 1 := by unfold zmf; split <;> omega
def zmost (g : Nat → Int32) (k : Nat) : Nat → Nat
  | 0 => zmf k
  | o + 1 => if o = k then zmost g k o else if g o ≤ g (zmost g k o) then zmost g k o else o
theorem zmost_lt (g : Nat → Int32) {k o : Nat} (ho : o ≤ 4) : zmost g k o < 4 := by
  induction o with
  | zero => have := zmf_le k; unfold zmost; omega
  | succ o ih => unfold zmost; have := ih (by omega); split <;> (try split) <;> omega
theorem zmost_st (g : Nat → Int32) (k : Nat) : zmost g k (zmf k + 1) = zmf k := by
  by_cases h : k = 0
  · subst h
    have e : zmf 0 = 1 := rfl
    rw [e]
    have e0 : zmost g 0 1 = 1 := by
      show (if (0 : Nat) = 0 then zmost g 0 0 else _) = 1
      rw [if_pos rfl]; rfl
    show (if (1 : Nat) = 0 then zmost g 0 1 else if g 1 ≤ g (zmost g 0 1) then zmost g 0 1 else 1) = 1
    rw [if_neg (by decide), e0]; split <;> rfl
  · have e : zmf k = 0 := if_neg h
    rw [e]
    show (if (0 : Nat) = k then zmost g k 0 else if g 0 ≤ g (zmost g k 0) then zmost g k 0 else 0) = 0
    have e0 : zmost g k 0 = 0 := e
    rw [e0]; split
    · rfl
    · split <;> rfl
def zrow (f : Nat → Int32) (p : Nat) : Nat → Int32 := fun j => f (p * 4 + j)
def zlearn (f : Nat → Int32) (p k : Nat) : Nat → Int32 :=
  if f (p * 4 + k) < 10 then
    upd (upd f (p * 4 + k) (f (p * 4 + k) + 1)) (p * 4 + zmost (zrow f p) k 4) (upd f (p * 4 + k) (f (p * 4 + k) + 1) (p * 4 + zmost (zrow f p) k 4) - 1)
  else f
