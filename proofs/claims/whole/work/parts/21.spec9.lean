/-! The reference's public methods, second half: broke, reform, joke, school, braced, week. -/
theorem zns_100 (f : Nat → Int32) (rt fr : Int32) (n k : Nat) : zns f rt fr n k 100 = znr f rt fr n k 10 := rfl
def znI (f : Nat → Int32) (rt fr : Int32) (n k w : Nat) (l : Int32) : Prop := l = (zns f rt fr n k w).2 ∨ (l = 99 ∧ (zns f rt fr n k w).2 = 20)
theorem zcg_18 {q r a b : Nat} (hq : q ≤ 9) (hr : r ≤ 9) (ha : a ≤ 9) (hb : b ≤ 9) : zcg (nI q) (nI r) a b ≤ 18 := zcg_le a ha q hq b hb r hr
theorem z_le_18 {x : Int32} (h : x ≤ 18) : ¬ (99 : Int32) ≤ x ∧ ¬ (20 : Int32) ≤ x := by
  rw [Int32.le_iff_toInt_le] at *
  have e : (18 : Int32).toInt = 18 := rfl
  constructor
  · intro q; have e2 : (99 : Int32).toInt = 99 := rfl; omega
  · intro q; rw [Int32.le_iff_toInt_le] at q; have e2 : (20 : Int32).toInt = 20 := rfl; omega
theorem znI_le {f : Nat → Int32} {q r : Nat} {n k w : Nat} {l : Int32} (h : znI f (nI q) (nI r) n k w l) (hq : q ≤ 9) (hr : r ≤ 9) (hw : w < 100) : l ≤ zcg (nI q) (nI r) (w / 10) (w % 10) ↔ (zns f (nI q) (nI r) n k w).2 ≤ zcg (nI q) (nI r) (w / 10) (w % 10) := by
  rcases h with h | ⟨h1, h2⟩
  · rw [h]
  · have h3 := z_le_18 (zcg_18 hq hr (a := w / 10) (b := w % 10) (by omega) (by omega))
    rw [h1, h2]
    exact ⟨fun q => absurd q h3.1, fun q => absurd q h3.2⟩
theorem zns_no {f : Nat → Int32} {rt fr : Int32} {n k w : Nat} (h : ¬ zac f (nI (w / 10)) (nI (w % 10)) k n = true) : zns f rt fr n k (w + 1) = zns f rt fr n k w := by
  rw [zns_s, if_neg h]; split <;> rfl
theorem zns_le {f : Nat → Int32} {rt fr : Int32} {n k w : Nat} (h : (zns f rt fr n k w).2 ≤ zcg rt fr (w / 10) (w % 10)) : zns f rt fr n k (w + 1) = zns f rt fr n k w := by
  rw [zns_s, if_pos h]
theorem zns_yes {f : Nat → Int32} {rt fr : Int32} {n k w : Nat} (h : zac f (nI (w / 10)) (nI (w % 10)) k n = true) (h2 : ¬ (zns f rt fr n k w).2 ≤ zcg rt fr (w / 10) (w % 10)) : zns f rt fr n k (w + 1) = (nI w, zcg rt fr (w / 10) (w % 10)) := by
  rw [zns_s, if_neg h2, if_pos h]
theorem znI_k {f : Nat → Int32} {rt fr : Int32} {n k w : Nat} {l : Int32} (h : znI f rt fr n k w l) (e : zns f rt fr n k (w + 1) = zns f rt fr n k w) : znI f rt fr n k (w + 1) l := by
  unfold znI; rw [e]; exact h
/-- the reference's page for one who is asked: braced -/
theorem zand_lt {s : Nat} (hs : s < 32) (x : Int32) : ∃ j, j < 32 ∧ x &&& nI s = nI j := by
  obtain ⟨j, hj, h⟩ := pk_andE x (m := 31) 5 (by decide)
  have e : ∀ s, s < 32 → (31 : Int32) &&& nI s = nI s := by decide +kernel
  have e2 : ∀ j, j < 32 → ∀ s, s < 32 → nI j &&& nI s = nI (j &&& s) := by decide +kernel
  refine ⟨j &&& s, Nat.lt_of_le_of_lt Nat.and_le_left hj, ?_⟩
  rw [← e s hs, ← Int32.and_assoc, h, e2 j hj s hs]
theorem zmany_nI {s : Nat} (hs : s < 32) (x : Int32) : zmany (x &&& nI s) 5 = zbc (x &&& nI s) := by
  obtain ⟨j, hj, h⟩ := zand_lt hs x
  rw [h]; exact zmany_bc j hj
theorem zbr_st {rd nv : Nat → Int32} {s : Int32} {i : Nat} (h : zbr rd nv s i = true) (h2 : zbok rd nv s i = true) : (1 : Int32) = if zbr rd nv s (i + 1) = true then 1 else 0 := by
  rw [if_pos (show zbr rd nv s (i + 1) = true from (show (zbr rd nv s i && zbok rd nv s i) = true by rw [h, h2]; rfl))]
theorem zbr_sf {rd nv : Nat → Int32} {s : Int32} {i : Nat} (h2 : zbok rd nv s i = false) : (0 : Int32) = if zbr rd nv s (i + 1) = true then 1 else 0 := by
  rw [if_neg (show ¬ zbr rd nv s (i + 1) = true from (show ¬ (zbr rd nv s i && zbok rd nv s i) = true by rw [h2, Bool.and_false]; exact Bool.false_ne_true))]
theorem zbr_sn {rd nv : Nat → Int32} {s : Int32} {i : Nat} (h : ¬ zbr rd nv s i = true) : (0 : Int32) = if zbr rd nv s (i + 1) = true then 1 else 0 := by
  rw [if_neg (show ¬ zbr rd nv s (i + 1) = true from (show ¬ (zbr rd nv s i && zbok rd nv s i) = true by rw [Bool.eq_false_iff.mpr h]; exact Bool.false_ne_true))]
theorem zbok_t {rd nv : Nat → Int32} {s i : Nat} (h1 : ¬ zbc (rd i &&& nI s) < nv i) (h2 : zin (nI s) i) : zbok rd nv (nI s) i = true := by
  unfold zbok; rw [decide_eq_false h1, decide_eq_false h2]; rfl
theorem zbok_t2 {rd nv : Nat → Int32} {s i : Nat} (h1 : zbc (rd i &&& nI s) < nv i) (h2 : ¬ zin (nI s) i) : zbok rd nv (nI s) i = true := by
  unfold zbok; rw [decide_eq_true h1, decide_eq_true (Classical.not_not.mp h2)]; rfl
theorem zbok_f {rd nv : Nat → Int32} {s i : Nat} (h1 : ¬ zbc (rd i &&& nI s) < nv i) (h2 : ¬ zin (nI s) i) : zbok rd nv (nI s) i = false := by
  unfold zbok; rw [decide_eq_false h1, decide_eq_true (Classical.not_not.mp h2)]; rfl
theorem zbok_f2 {rd nv : Nat → Int32} {s i : Nat} (h1 : zbc (rd i &&& nI s) < nv i) (h2 : zin (nI s) i) : zbok rd nv (nI s) i = false := by
  unfold zbok; rw [decide_eq_true h1, decide_eq_false h2]; rfl
theorem zpow2 : ∀ n, n ≤ 5 → (1 : Int32) <<< (nI n &&& 31) = nI (2 ^ n) := by decide +kernel
/-- a row of tenths of one, learnt by the reference -/
theorem zml_row {p k : Nat} {E t : Nat → Int32} (h : ∀ j, j < 4 → t j = E (p * 4 + j)) (hv : zpv1 p E) (hk : k < 4) : ∀ j, j < 4 → zml t 0 k j = zlearn E p k (p * 4 + j) := by
  have hz : ∀ j, j < 4 → t (0 + j) = E (p * 4 + j) := fun j hj => by rw [Nat.zero_add]; exact h j hj
  have key : ∀ o, o ≤ 4 → zmost (fun j => t (0 + j)) k o = zmost (zrow E p) k o := by
    intro o
    induction o with
    | zero => intro _; rfl
    | succ o ih =>
      intro ho
      have ih := ih (by omega)
      have hm := zmost_lt (zrow E p) (k := k) (o := o) (by omega)
      show (if o = k then _ else if t (0 + o) ≤ t (0 + zmost (fun j => t (0 + j)) k o) then _ else _) = (if o = k then _ else if E (p * 4 + o) ≤ E (p * 4 + zmost (zrow E p) k o) then _ else _)
      rw [ih, hz o (by omega), hz _ hm]
  have hmm : zmo t 0 k 4 = zmost (zrow E p) k 4 := key 4 (Nat.le_refl 4)
  have hm4 : zmost (zrow E p) k 4 < 4 := zmost_lt _ (Nat.le_refl 4)
  intro j hj
  unfold zml zlearn
  rw [hmm]
  by_cases hc : t (0 + k) = 10
  · have hc2 : ¬ E (p * 4 + k) < 10 := by rw [zv_lt hv hk, ← hz k hk]; exact fun q => q hc
    rw [if_pos hc, if_neg hc2]; exact h j hj
  · have hc2 : E (p * 4 + k) < 10 := by rw [zv_lt hv hk, ← hz k hk]; exact hc
    rw [if_neg hc, if_pos hc2]
    generalize zmost (zrow E p) k 4 = m at *
    by_cases q1 : j = m
    · subst q1
      rw [show upd (upd t (0 + k) (t (0 + k) + 1)) (0 + j) (upd t (0 + k) (t (0 + k) + 1) (0 + j) - 1) j = upd t (0 + k) (t (0 + k) + 1) (0 + j) - 1 by rw [Nat.zero_add j]; exact pk_us, pk_us]
      by_cases q2 : j = k
      · subst q2; rw [pk_us, pk_us, hz j hj]
      · rw [pk_un (show 0 + j ≠ 0 + k by omega), pk_un (show p * 4 + j ≠ p * 4 + k by omega), hz j hj]
    · rw [pk_un (show j ≠ 0 + m by omega), pk_un (show p * 4 + j ≠ p * 4 + m by omega)]
      by_cases q2 : j = k
      · subst q2
        rw [show upd t (0 + j) (t (0 + j) + 1) j = t (0 + j) + 1 by rw [Nat.zero_add j]; exact pk_us, pk_us, hz j hj]
      · rw [pk_un (show j ≠ 0 + k by omega), pk_un (show p * 4 + j ≠ p * 4 + k by omega), h j hj]
theorem zsg_v {f : Nat → Int32} {p : Nat} {sc : Int32} {d w : Nat} (hv : zpv1 p f) (hp : p < 5) : ∀ i, (∀ j, j < i → zdi w d j < 4) → zpv1 p (zsg f p sc d w i) ∧ zsg f p sc d w i (25 + p) = -9 ∧ zsg f p sc d w i (30 + p) = -9
  | 0, _ => by
    refine ⟨zpv1_eq (fun j hj => ?_) hv, ?_, ?_⟩
    · show zfg f 5 (p * 4 + j) = _
      unfold zfg; rw [if_neg (by omega)]
    · show zfg f 5 (25 + p) = _
      unfold zfg; rw [if_pos (by omega)]
    · show zfg f 5 (30 + p) = _
      unfold zfg; rw [if_pos (by omega)]
  | i + 1, h => by
    obtain ⟨h1, h2, h3⟩ := zsg_v (sc := sc) (d := d) (w := w) hv hp i (fun j hj => h j (by omega))
    have hk := h i (by omega)
    rw [zsg_s]
    split
    · exact ⟨zlearn_v h1 hk, by rw [zlearn_o (by omega) hk]; exact h2, by rw [zlearn_o (by omega) hk]; exact h3⟩
    · split
      · refine ⟨⟨fun j => if j = zdi w d i then 10 else 0, fun j hj => ?_, ?_⟩, ?_, ?_⟩
        · show _ = nI (if j = zdi w d i then 10 else 0)
          by_cases q : j = zdi w d i
          · rw [if_pos q, q, pk_us]; rfl
          · rw [pk_un (by omega), if_neg q]; unfold zeo; rw [if_pos (by omega)]; rfl
        · generalize zdi w d i = k at *
          rcases (show k = 0 ∨ k = 1 ∨ k = 2 ∨ k = 3 by omega) with rfl | rfl | rfl | rfl <;> rfl
        · rw [pk_un (by omega)]; unfold zeo; rw [if_neg (by omega)]; exact h2
        · rw [pk_un (by omega)]; unfold zeo; rw [if_neg (by omega)]; exact h3
      · exact ⟨h1, h2, h3⟩
/-- school 2: the row is laid anew -/
def zlay (t : Nat → Int32) (k i : Nat) : Nat → Int32 := fun j => if j < i then (if j = k then 10 else 0) else t j
theorem zlay_0 (t : Nat → Int32) (k : Nat) : zlay t k 0 = t := by
  funext j; unfold zlay; rw [if_neg (Nat.not_lt_zero _)]
theorem zlay_y (t : Nat → Int32) {k i : Nat} (h : i = k) : upd (zlay t k i) i 10 = zlay t k (i + 1) := by
  funext j; unfold upd zlay
  by_cases h1 : j = i
  · rw [if_pos h1, if_pos (by omega), if_pos (by omega)]
  · rw [if_neg h1]
    by_cases h3 : j < i
    · rw [if_pos h3, if_pos (show j < i + 1 by omega)]
    · rw [if_neg h3, if_neg (by omega)]
theorem zlay_n (t : Nat → Int32) {k i : Nat} (h : ¬ i = k) : upd (zlay t k i) i 0 = zlay t k (i + 1) := by
  funext j; unfold upd zlay
  by_cases h1 : j = i
  · rw [if_pos h1, if_pos (by omega), if_neg (by omega)]
  · rw [if_neg h1]
    by_cases h3 : j < i
    · rw [if_pos h3, if_pos (show j < i + 1 by omega)]
    · rw [if_neg h3, if_neg (by omega)]
def zscR (f : Nat → Int32) (p : Nat) (sc : Int32) (d w i : Nat) (t : Nat → Int32) : Prop := ∀ j, j < 4 → t j = zsg f p sc d w i (p * 4 + j)
theorem zscR_2 {f t : Nat → Int32} {p : Nat} {sc : Int32} {d w i : Nat} (h : sc = 2) (hk : zdi w d i < 4) : zscR f p sc d w (i + 1) (zlay t (zdi w d i) 4) := by
  intro j hj
  rw [zsg_s, if_neg (by rw [h]; decide), if_pos h]
  unfold zlay; rw [if_pos hj]
  by_cases q : j = zdi w d i
  · rw [if_pos q, q, pk_us]
  · rw [if_neg q, pk_un (by omega)]; unfold zeo; rw [if_pos (by omega)]
theorem zscR_0 {f t : Nat → Int32} {p : Nat} {sc : Int32} {d w i : Nat} (h : sc = 0) (hk : zdi w d i < 4) (hv : zpv1 p (zsg f p sc d w i)) (ht : zscR f p sc d w i t) : zscR f p sc d w (i + 1) (zml t 0 (zdi w d i)) := by
  intro j hj
  rw [zsg_s, if_pos h]; exact zml_row ht hv hk j hj
theorem zscR_1 {f t : Nat → Int32} {p : Nat} {sc : Int32} {d w i : Nat} (h : ¬ sc = 0) (h2 : ¬ sc = 2) (ht : zscR f p sc d w i t) : zscR f p sc d w (i + 1) t := by
  intro j hj
  rw [zsg_s, if_neg h, if_neg h2]; exact ht j hj
theorem zss_m {f t : Nat → Int32} {p : Nat} {fr sc : Int32} {d w i : Nat} (ht : zscR f p sc d w i t) (h2 : zsg f p sc d w i (25 + p) = -9) (h3 : zsg f p sc d w i (30 + p) = -9) (hk : zdi w d i < 4) : zss f p fr sc d w i + zsu (t (zdi w d i)) (-9) (-9) (nI (zdi w d i)) fr = zss f p fr sc d w (i + 1) := by
  show _ = zss f p fr sc d w i + zsu _ _ _ _ _
  rw [h2, h3, ht _ hk]
/-- the day's kind -/
def zes (e : Nat → Nat) : Nat → Nat
  | 0 => 0
  | k + 1 => zes e k + e k
theorem zos_nat {od : Nat → Int32} {e : Nat → Nat} (h : ∀ k, k < 4 → od k = nI (e k)) : ∀ k, k ≤ 4 → zos od k = nI (zes e k)
  | 0, _ => rfl
  | k + 1, hk => by
    show zos od k + od k = _
    rw [zos_nat h k (by omega), h k (by omega)]; exact nI_add _ _
def zov (od : Nat → Int32) : Prop := ∃ e : Nat → Nat, (∀ k, k < 4 → od k = nI (e k)) ∧ e 0 + e 1 + e 2 + e 3 = 10
theorem zdr_nat (x : Int64) : ∃ q, q < 10 ∧ zdr x = nI q := by
  have h1 : ∃ a : Nat, a < 2 ^ 31 ∧ (x.toUInt64 >>> ((33 : Int32).toInt64.toUInt64 &&& Int64.toUInt64 63)).toInt64 = lN a := by
    refine ⟨x.toUInt64.toNat / 2 ^ 33, ?_, ?_⟩
    · have := x.toUInt64.toNat_lt
      omega
    · have e : ((33 : Int32).toInt64.toUInt64 &&& Int64.toUInt64 63) = 33 := by decide
      rw [e]
      apply Int64.toBitVec_inj.mp
      apply BitVec.eq_of_toNat_eq
      show (x.toUInt64 >>> 33).toNat = _
      rw [UInt64.toNat_shiftRight, Nat.shiftRight_eq_div_pow]
      have h2 : (lN (x.toUInt64.toNat / 2 ^ 33)).toBitVec.toNat = x.toUInt64.toNat / 2 ^ 33 := by
        show (Int64.ofNat _).toBitVec.toNat = _
        rw [Int64.toBitVec_ofNat', BitVec.toNat_ofNat]
        have := x.toUInt64.toNat_lt
        omega
      rw [h2]; rfl
  obtain ⟨a, ha, h⟩ := h1
  have h10 : (10 : Int64) = lN 10 := rfl
  refine ⟨a % 10, Nat.mod_lt _ (by decide), ?_⟩
  unfold zdr
  rw [h, h10, pk_lRem (by omega) (by decide) (by decide)]
  exact lN_i _
theorem zdw_of {od : Nat → Int32} {e : Nat → Nat} {q k : Nat} (h : ∀ k, k < 4 → od k = nI (e k)) (hs : e 0 + e 1 + e 2 + e 3 = 10) (hq : q < 10) (hk : k < 4) (h1 : zes e k ≤ q) (h2 : ¬ zes e (k + 1) ≤ q) (hm : ∀ j, j < k → zes e (j + 1) ≤ q) : k = zdw od (nI q) := by
  have hb : ∀ j, j ≤ 4 → zes e j ≤ 10 := by
    intro j hj
    rcases (show j = 0 ∨ j = 1 ∨ j = 2 ∨ j = 3 ∨ j = 4 by omega) with rfl | rfl | rfl | rfl | rfl <;> simp only [zes] <;> omega
  refine (zdw_eq hk (fun j hj => ?_) ?_).symm
  · rw [zos_nat h _ (by omega)]; exact nI_le (hm j hj) (by omega)
  · rw [zos_nat h _ (by omega)]; exact nI_ge (by omega) (by have := hb (k + 1) (by omega); omega)
theorem zwk_v {n : Nat} {od f : Nat → Int32} {rt fr : Int32} {s : Int64} (hv : zpv n f) (hn : n ≤ 5) : ∀ i, zpv n (zwkG od f rt fr n s i)
  | 0 => hv
  | i + 1 => zcome_v (zwk_v hv hn i) hn (zdw_lt _ _)
