/-! The reference's page against the class's: one by one, and the whole. -/
theorem lg_lt0 {x y : Int64} (h : lg_cmp x y < 0) : x < y := (lg_cmp_lt x y).mp h
theorem lg_nlt0 {x y : Int64} (h : ¬ lg_cmp x y < 0) : ¬ x < y := fun q => h ((lg_cmp_lt x y).mpr q)
theorem lg_gt0 {x y : Int64} (h : 0 < lg_cmp x y) : y < x := (lg_cmp_gt x y).mp h
theorem lg_ngt0 {x y : Int64} (h : ¬ 0 < lg_cmp x y) : ¬ y < x := fun q => h ((lg_cmp_gt x y).mpr q)
theorem zwide_lt (a b : Int32) : a.toInt64 < b.toInt64 ↔ a < b := by
  rw [Int64.lt_iff_toInt_lt, Int32.lt_iff_toInt_lt, Int32.toInt_toInt64, Int32.toInt_toInt64]
theorem zinr {x : Int32} {a b : Int64} (lo hi : Nat) (ha : a = (nI lo).toInt64) (hb : b = (nI hi).toInt64) : (¬ x.toInt64 < a ∧ ¬ b < x.toInt64) ↔ (¬ x < nI lo ∧ x ≤ nI hi) := by
  rw [ha, hb, zwide_lt, zwide_lt, Int32.not_lt (a := nI hi)]
theorem zinh {x : Int32} {n : Nat} (hn : n < 1000) : (¬ x.toInt64 < 0 ∧ ¬ (nI n - nI 1).toInt64 < x.toInt64) ↔ zhas n x := by
  have h0 : (0 : Int64) = (nI 0).toInt64 := rfl
  rw [h0, zwide_lt, zwide_lt]
  constructor
  · intro h
    refine ⟨h.1, fun q => ?_⟩
    rcases Nat.eq_zero_or_pos n with e | e
    · subst e
      have h1 : (nI 0 - nI 1 : Int32) = -1 := rfl
      rw [h1] at h
      have h2 := h.1; have h3 := h.2
      rw [Int32.lt_iff_toInt_lt] at h2 h3
      have e1 : (nI 0).toInt = 0 := rfl
      have e2 : (-1 : Int32).toInt = -1 := rfl
      rw [e1] at h2; rw [e2] at h3
      omega
    · rw [pk_sub e] at h
      have h3 := h.2
      rw [Int32.lt_iff_toInt_lt, nI_toInt (by omega)] at h3
      rw [Int32.le_iff_toInt_le, nI_toInt (by omega)] at q
      omega
  · intro h
    obtain ⟨p, hp, rfl⟩ := zhas_of (by omega) h
    refine ⟨nI_pos (by omega), ?_⟩
    rw [pk_sub (by omega)]
    exact nI_nlt (by omega) (by omega)
theorem zink {x : Int32} : (¬ x.toInt64 < 0 ∧ ¬ 3 < x.toInt64) ↔ zkind x := by
  have h := zinr (x := x) 0 3 (a := 0) (b := 3) rfl rfl
  rw [h]
  constructor
  · intro q
    refine ⟨q.1, fun q2 => ?_⟩
    have := q.2
    rw [Int32.le_iff_toInt_le] at this q2
    have e1 : (nI 3).toInt = 3 := rfl
    have e2 : (4 : Int32).toInt = 4 := rfl
    omega
  · intro q
    obtain ⟨k, hk, rfl⟩ := zkind_of q
    exact ⟨nI_pos (by omega), nI_le (by omega) (by decide)⟩
theorem zRa_n {α : Type} {lo hi : Nat} {x : Int32} {F : Nat → α} {b : α} (h : ¬ (¬ x < nI lo ∧ x ≤ nI hi)) : zRa lo hi x F b = b := if_neg h
theorem znk9 {k : Nat} (h : k < 4) : ¬ nI k = -9 := by
  rcases (show k = 0 ∨ k = 1 ∨ k = 2 ∨ k = 3 by omega) with rfl | rfl | rfl | rfl <;> decide
theorem zpos_eq (y : Int32) : (if y < 0 then 0 else y) = (if 0 < y then y else 0) := by
  by_cases h : y < 0
  · rw [if_pos h, if_neg (fun q => by rw [Int32.lt_iff_toInt_lt] at h q; omega)]
  · rw [if_neg h]
    by_cases h2 : 0 < y
    · rw [if_pos h2]
    · rw [if_neg h2]
      have e0 : (0 : Int32).toInt = 0 := rfl
      rw [Int32.lt_iff_toInt_lt] at h h2
      exact Int32.toInt_inj.mp (by omega)
/-- the surprise as the reference reckons it -/
theorem zsu_m {e d h fr : Int32} {k : Nat} (hk : k < 4) : zsu e d h (nI k) fr = if d = -9 then (if h = nI k then (if 0 < 10 - e - fr then 10 - e - fr else 0) / 2 else (if 0 < 10 - e - fr then 10 - e - fr else 0)) else if d = nI k then 0 else 10 - fr := by
  unfold zsu
  by_cases h1 : d = nI k
  · rw [if_pos h1, if_neg (fun q => znk9 hk (by rw [← h1]; exact q)), if_pos h1]
  · rw [if_neg h1, if_neg h1]
def zp1 (p : Nat) (f g : Nat → Int32) : Prop := (∀ k, k < 4 → g (7 * p + k) = f (p * 4 + k)) ∧ g (7 * p + 4) = f (20 + p) ∧ g (7 * p + 5) = f (25 + p) ∧ g (7 * p + 6) = f (30 + p)
def zpr (n : Nat) (f g : Nat → Int32) : Prop := (∀ p, p < n → zp1 p f g) ∧ g 35 = f 35
def zpv1 (p : Nat) (f : Nat → Int32) : Prop := ∃ e : Nat → Nat, (∀ k, k < 4 → f (p * 4 + k) = nI (e k)) ∧ e 0 + e 1 + e 2 + e 3 = 10
def zpv (n : Nat) (f : Nat → Int32) : Prop := ∀ p, p < n → zpv1 p f
theorem ztax_g {p k : Nat} {f g : Nat → Int32} {rt fr : Int32} (h : zp1 p f g) (hk : k < 4) : rt * zsu (g (7 * p + k)) (g (7 * p + 5)) (g (7 * p + 6)) (nI k) fr = ztax f rt fr p k := by
  unfold ztax; rw [h.1 k hk, h.2.2.1, h.2.2.2]
/-- the reference's learning -/
def zmo (g : Nat → Int32) (b k o : Nat) : Nat := zmost (fun j => g (b + j)) k o
def zmoI (g : Nat → Int32) (b k o : Nat) : Int32 := if o = 0 ∨ (o = 1 ∧ k = 0) then -9 else nI (zmo g b k o)
theorem zmoI_nat {g : Nat → Int32} {b k o : Nat} (h : ¬ zmoI g b k o = -9) : zmoI g b k o = nI (zmo g b k o) := by
  unfold zmoI at h ⊢
  split at h
  · exact absurd rfl h
  · rename_i q; rw [if_neg q]
theorem znI9 {j : Nat} (h : j < 2147483648) : ¬ nI j = -9 := by
  intro q
  have := congrArg Int32.toInt q
  rw [nI_toInt h] at this
  have e : (-9 : Int32).toInt = -9 := rfl
  omega
theorem zmo_lt {g : Nat → Int32} {b k o : Nat} (ho : o ≤ 4) : zmo g b k o < 4 := zmost_lt _ ho
theorem zmoI_first {g : Nat → Int32} {b k o : Nat} (h : zmoI g b k o = -9) (ho : o < 4) (hk : ¬ o = k) : nI o = zmoI g b k (o + 1) := by
  have hq : o = 0 ∨ (o = 1 ∧ k = 0) := by
    rcases Classical.em (o = 0 ∨ (o = 1 ∧ k = 0)) with q | q
    · exact q
    · unfold zmoI at h; rw [if_neg q] at h
      exact absurd h (znI9 (by have := zmo_lt (g := g) (b := b) (k := k) (o := o) (by omega); omega))
  have hz := zmost_st (fun j => g (b + j)) k
  rcases hq with rfl | ⟨rfl, rfl⟩
  · have e : zmf k = 0 := if_neg (fun q => hk q.symm)
    rw [e] at hz
    unfold zmoI zmo
    rw [if_neg (by omega), hz]
  · have e : zmf 0 = 1 := rfl
    rw [e] at hz
    unfold zmoI zmo
    rw [if_neg (by omega), hz]
theorem zmoI_skip {g : Nat → Int32} {b k o : Nat} (hk : o = k) (ho : o < 4) : zmoI g b k o = zmoI g b k (o + 1) := by
  subst hk
  unfold zmoI
  by_cases h0 : o = 0
  · subst h0; rfl
  · rw [if_neg (by omega), if_neg (by omega)]
    have e : zmo g b o (o + 1) = zmo g b o o := by
      unfold zmo; show (if o = o then _ else _) = _; rw [if_pos rfl]
    rw [e]
theorem zmoI_le {g : Nat → Int32} {b k o : Nat} (h : ¬ zmoI g b k o = -9) (hk : ¬ o = k) (hl : g (b + o) ≤ g (b + zmo g b k o)) : nI (zmo g b k o) = zmoI g b k (o + 1) := by
  have hq : ¬ (o = 0 ∨ (o = 1 ∧ k = 0)) := by
    intro q; unfold zmoI at h; rw [if_pos q] at h; exact h rfl
  unfold zmoI
  rw [if_neg (by omega)]
  have e : zmo g b k (o + 1) = zmo g b k o := by
    have hl2 : g (b + o) ≤ g (b + zmost (fun j => g (b + j)) k o) := hl
    unfold zmo; show (if o = k then _ else if g (b + o) ≤ g (b + zmost (fun j => g (b + j)) k o) then _ else _) = _
    rw [if_neg hk, if_pos hl2]
  rw [e]
theorem zmoI_gt {g : Nat → Int32} {b k o : Nat} (h : ¬ zmoI g b k o = -9) (hk : ¬ o = k) (hl : ¬ g (b + o) ≤ g (b + zmo g b k o)) : nI o = zmoI g b k (o + 1) := by
  have hq : ¬ (o = 0 ∨ (o = 1 ∧ k = 0)) := by
    intro q; unfold zmoI at h; rw [if_pos q] at h; exact h rfl
  unfold zmoI
  rw [if_neg (by omega)]
  have e : zmo g b k (o + 1) = o := by
    have hl2 : ¬ g (b + o) ≤ g (b + zmost (fun j => g (b + j)) k o) := hl
    unfold zmo; show (if o = k then _ else if g (b + o) ≤ g (b + zmost (fun j => g (b + j)) k o) then _ else _) = _
    rw [if_neg hk, if_neg hl2]
  rw [e]
def zml (g : Nat → Int32) (b k : Nat) : Nat → Int32 := if g (b + k) = 10 then g else upd (upd g (b + k) (g (b + k) + 1)) (b + zmo g b k 4) (upd g (b + k) (g (b + k) + 1) (b + zmo g b k 4) - 1)
/-- while an event goes through the people: those before i are through -/
def zpi (n i : Nat) (F g : Nat → Int32) : Prop := (∀ p, p < n → (∀ k, k < 4 → g (7 * p + k) = F (p * 4 + k)) ∧ g (7 * p + 4) = F (20 + p) ∧ g (7 * p + 5) = (if p < i then -9 else F (25 + p)) ∧ g (7 * p + 6) = (if p < i then -9 else F (30 + p))) ∧ g 35 = F 35
theorem zpi_0 {n : Nat} {f g : Nat → Int32} (h : zpr n f g) : zpi n 0 f g := by
  refine ⟨fun p hp => ?_, h.2⟩
  obtain ⟨h1, h2, h3, h4⟩ := h.1 p hp
  exact ⟨h1, h2, by rw [if_neg (Nat.not_lt_zero _)]; exact h3, by rw [if_neg (Nat.not_lt_zero _)]; exact h4⟩
theorem zpi_1 {n i : Nat} {F g : Nat → Int32} (h : zpi n i F g) (hi : i < n) : zp1 i F g := by
  obtain ⟨h1, h2, h3, h4⟩ := h.1 i hi
  rw [if_neg (Nat.lt_irrefl _)] at h3 h4
  exact ⟨h1, h2, h3, h4⟩
theorem zcom_end {n : Nat} {F g : Nat → Int32} (h : zpi n n F g) (hn : n ≤ 5) : zpr n (zfg (upd F 35 (F 35 + 1)) 5) (upd g 35 (g 35 + 1)) := by
  refine ⟨fun p hp => ?_, ?_⟩
  · obtain ⟨h1, h2, h3, h4⟩ := h.1 p hp
    rw [if_pos hp] at h3 h4
    refine ⟨fun k hk => ?_, ?_, ?_, ?_⟩
    · unfold zfg; rw [pk_un (by omega), h1 k hk, if_neg (by omega), pk_un (by omega)]
    · unfold zfg; rw [pk_un (by omega), h2, if_neg (by omega), pk_un (by omega)]
    · unfold zfg; rw [pk_un (by omega), h3, if_pos (by omega)]
    · unfold zfg; rw [pk_un (by omega), h4, if_pos (by omega)]
  · unfold zfg; rw [pk_us, if_neg (by omega), pk_us, h.2]
theorem zv_lt {f : Nat → Int32} {p k : Nat} (h : zpv1 p f) (hk : k < 4) : (f (p * 4 + k) < 10 ↔ ¬ f (p * 4 + k) = 10) := by
  obtain ⟨e, h1, h2⟩ := h
  rw [h1 k hk]
  have hle : e k ≤ 10 := by
    rcases (show k = 0 ∨ k = 1 ∨ k = 2 ∨ k = 3 by omega) with rfl | rfl | rfl | rfl <;> omega
  have h10 : (10 : Int32) = nI 10 := rfl
  rw [h10, nI_ltI (by omega) (by decide), nI_eq (by omega) (by decide)]
  omega
/-- learning keeps the tenths: they stay ten together -/
theorem zlearn_v {f : Nat → Int32} {p k : Nat} (h : zpv1 p f) (hk : k < 4) : zpv1 p (zlearn f p k) := by
  unfold zlearn
  by_cases hc : f (p * 4 + k) < 10
  · rw [if_pos hc]
    obtain ⟨e, h1, h2⟩ := h
    have hm4 : zmost (zrow f p) k 4 < 4 := zmost_lt _ (Nat.le_refl 4)
    have hne : ∀ o, o ≤ 4 → zmf k + 1 ≤ o → zmost (zrow f p) k o ≠ k := by
      intro o
      induction o with
      | zero => intro _ h; omega
      | succ o ih =>
        intro ho hlo
        by_cases hb : o = zmf k
        · subst hb
          rw [zmost_st]
          intro q
          have := zmf_le k
          unfold zmf at q this
          split at q <;> omega
        · have ih := ih (by omega) (by omega)
          show (if o = k then _ else if zrow f p o ≤ zrow f p (zmost (zrow f p) k o) then _ else _) ≠ k
          split
          · exact ih
          · rename_i q
            split
            · exact ih
            · exact q
    have hmk := hne 4 (Nat.le_refl 4) (by have := zmf_le k; omega)
    have hbig : ∀ o, o ≤ 4 → ∀ j, j < o → j ≠ k → e j ≤ e (zmost (zrow f p) k o) := by
      intro o
      induction o with
      | zero => intro _ j hj; omega
      | succ o ih =>
        intro ho j hj hjk
        have hml : zmost (zrow f p) k o < 4 := zmost_lt _ (by omega)
        have hz : zmost (zrow f p) k (o + 1) = (if o = k then zmost (zrow f p) k o else if zrow f p o ≤ zrow f p (zmost (zrow f p) k o) then zmost (zrow f p) k o else o) := rfl
        have hle : ∀ q, q < 4 → e q ≤ 10 := by
          intro q hq
          rcases (show q = 0 ∨ q = 1 ∨ q = 2 ∨ q = 3 by omega) with rfl | rfl | rfl | rfl <;> omega
        rw [hz]
        by_cases hok : o = k
        · rw [if_pos hok]; exact ih (by omega) j (by omega) hjk
        · rw [if_neg hok]
          have hcmp : (zrow f p o ≤ zrow f p (zmost (zrow f p) k o)) ↔ e o ≤ e (zmost (zrow f p) k o) := by
            have hl1 := hle o (by omega)
            have hl2 := hle _ hml
            show (f (p * 4 + o) ≤ f (p * 4 + zmost (zrow f p) k o)) ↔ _
            rw [h1 o (by omega), h1 _ hml]
            exact nI_leI (by omega) (by omega)
          by_cases hc2 : zrow f p o ≤ zrow f p (zmost (zrow f p) k o)
          · rw [if_pos hc2]
            have hc3 := hcmp.mp hc2
            rcases Nat.lt_or_ge j o with q | q
            · exact ih (by omega) j q hjk
            · have : j = o := by omega
              subst this; exact hc3
          · rw [if_neg hc2]
            have hc3 : ¬ e o ≤ e (zmost (zrow f p) k o) := fun q => hc2 (hcmp.mpr q)
            rcases Nat.lt_or_ge j o with q | q
            · have := ih (by omega) j q hjk; omega
            · have : j = o := by omega
              subst this; exact Nat.le_refl _
    have hb4 : ∀ j, j < 4 → j ≠ k → e j ≤ e (zmost (zrow f p) k 4) := fun j hj hjk => hbig 4 (Nat.le_refl 4) j hj hjk
    clear hbig hne
    generalize zmost (zrow f p) k 4 = m at *
    have hek : e k < 10 := by
      have hle : e k ≤ 10 := by
        rcases (show k = 0 ∨ k = 1 ∨ k = 2 ∨ k = 3 by omega) with rfl | rfl | rfl | rfl <;> omega
      have h10 : (10 : Int32) = nI 10 := rfl
      rw [h1 k hk, h10, nI_ltI (by omega) (by decide)] at hc
      exact hc
    have hem : 1 ≤ e m := by
      rcases Nat.eq_zero_or_pos (e m) with q | q
      · exfalso
        have b0 := hb4 0 (by omega)
        have b1 := hb4 1 (by omega)
        have b2 := hb4 2 (by omega)
        have b3 := hb4 3 (by omega)
        rcases (show k = 0 ∨ k = 1 ∨ k = 2 ∨ k = 3 by omega) with rfl | rfl | rfl | rfl
        · have := b1 (by omega); have := b2 (by omega); have := b3 (by omega); omega
        · have := b0 (by omega); have := b2 (by omega); have := b3 (by omega); omega
        · have := b0 (by omega); have := b1 (by omega); have := b3 (by omega); omega
        · have := b0 (by omega); have := b1 (by omega); have := b2 (by omega); omega
      · exact q
    refine ⟨fun j => if j = m then e m - 1 else if j = k then e k + 1 else e j, fun j hj => ?_, ?_⟩
    · show upd (upd f (p * 4 + k) (f (p * 4 + k) + 1)) (p * 4 + m) (upd f (p * 4 + k) (f (p * 4 + k) + 1) (p * 4 + m) - 1) (p * 4 + j) = nI (if j = m then e m - 1 else if j = k then e k + 1 else e j)
      by_cases q1 : j = m
      · subst q1
        rw [pk_us, if_pos rfl, pk_un (by omega), h1 j hj]
        exact pk_sub hem
      · rw [pk_un (by omega), if_neg q1]
        by_cases q2 : j = k
        · subst q2
          rw [pk_us, if_pos rfl, h1 j hj]; exact nI_1 _
        · rw [pk_un (by omega), if_neg q2]; exact h1 j hj
    · have hm := hm4; have hmk := hmk
      rcases (show k = 0 ∨ k = 1 ∨ k = 2 ∨ k = 3 by omega) with rfl | rfl | rfl | rfl <;>
        rcases (show m = 0 ∨ m = 1 ∨ m = 2 ∨ m = 3 by omega) with rfl | rfl | rfl | rfl <;>
        first | exact absurd rfl hmk | (simp; omega)
  · rw [if_neg hc]; exact h
theorem zrow_mo {p k : Nat} {F g : Nat → Int32} (h : ∀ j, j < 4 → g (7 * p + j) = F (p * 4 + j)) : zmo g (7 * p) k 4 = zmost (zrow F p) k 4 := by
  have key : ∀ o, o ≤ 4 → zmost (fun j => g (7 * p + j)) k o = zmost (zrow F p) k o := by
    intro o
    induction o with
    | zero => intro _; rfl
    | succ o ih =>
      intro ho
      have ih := ih (by omega)
      have hm := zmost_lt (zrow F p) (k := k) (o := o) (by omega)
      show (if o = k then _ else if g (7 * p + o) ≤ g (7 * p + zmost (fun j => g (7 * p + j)) k o) then _ else _) = (if o = k then _ else if F (p * 4 + o) ≤ F (p * 4 + zmost (zrow F p) k o) then _ else _)
      rw [ih, h o (by omega), h _ hm]
  exact key 4 (Nat.le_refl 4)
/-- one person through an event, in both pages -/
theorem zpi_s {n i k : Nat} {F g : Nat → Int32} {v t : Int32} (h : zpi n i F g) (hi : i < n) (hn : n ≤ 5) (hk : k < 4) (hv : zpv1 i F) (ht : v = F (20 + i) - t) :
    zpi n (i + 1) (zlearn (upd F (20 + i) v) i k) (upd (upd (zml (upd g (7 * i + 4) (g (7 * i + 4) - t)) (7 * i) k) (7 * i + 5) (-9)) (7 * i + 6) (-9)) := by
  subst ht
  have hF : ∀ j, j < 4 → upd F (20 + i) (F (20 + i) - t) (i * 4 + j) = F (i * 4 + j) := fun j hj => pk_un (by omega)
  have hg : ∀ j, j < 4 → upd g (7 * i + 4) (g (7 * i + 4) - t) (7 * i + j) = g (7 * i + j) := fun j hj => pk_un (by omega)
  obtain ⟨h1, h2, h3, h4⟩ := h.1 i hi
  generalize hG : upd g (7 * i + 4) (g (7 * i + 4) - t) = G
  generalize hE : upd F (20 + i) (F (20 + i) - t) = E
  have hGE : ∀ j, j < 4 → G (7 * i + j) = E (i * 4 + j) := fun j hj => by rw [← hG, ← hE, hF j hj, hg j hj, h1 j hj]
  have hvE : zpv1 i E := by
    obtain ⟨e, e1, e2⟩ := hv
    exact ⟨e, fun j hj => by rw [← hE, hF j hj]; exact e1 j hj, e2⟩
  have hmm := zrow_mo (k := k) hGE
  have hm4 : zmost (zrow E i) k 4 < 4 := zmost_lt _ (Nat.le_refl 4)
  -- the two learnings side by side
  have key : (∀ j, j < 4 → zml G (7 * i) k (7 * i + j) = zlearn E i k (i * 4 + j)) ∧ (∀ q, (q < 7 * i ∨ 7 * i + 4 ≤ q) → zml G (7 * i) k q = G q) ∧ (∀ q, (q < i * 4 ∨ i * 4 + 4 ≤ q) → zlearn E i k q = E q) := by
    unfold zml zlearn
    rw [hmm]
    by_cases hc : G (7 * i + k) = 10
    · have hc2 : ¬ E (i * 4 + k) < 10 := by rw [zv_lt hvE hk, ← hGE k hk]; exact fun q => q hc
      rw [if_pos hc, if_neg hc2]
      exact ⟨hGE, fun _ _ => rfl, fun _ _ => rfl⟩
    · have hc2 : E (i * 4 + k) < 10 := by rw [zv_lt hvE hk, ← hGE k hk]; exact hc
      rw [if_neg hc, if_pos hc2]
      generalize zmost (zrow E i) k 4 = m at *
      refine ⟨fun j hj => ?_, fun q hq => ?_, fun q hq => ?_⟩
      · by_cases q1 : j = m
        · subst q1
          rw [pk_us, pk_us]
          by_cases q2 : j = k
          · subst q2; rw [pk_us, pk_us, hGE j hj]
          · rw [pk_un (show 7 * i + j ≠ 7 * i + k by omega), pk_un (show i * 4 + j ≠ i * 4 + k by omega), hGE j hj]
        · rw [pk_un (show 7 * i + j ≠ 7 * i + m by omega), pk_un (show i * 4 + j ≠ i * 4 + m by omega)]
          by_cases q2 : j = k
          · subst q2; rw [pk_us, pk_us, hGE j hj]
          · rw [pk_un (show 7 * i + j ≠ 7 * i + k by omega), pk_un (show i * 4 + j ≠ i * 4 + k by omega), hGE j hj]
      · rw [pk_un (by omega), pk_un (by omega)]
      · rw [pk_un (by omega), pk_un (by omega)]
  obtain ⟨k1, k2, k3⟩ := key
  refine ⟨fun p hp => ?_, ?_⟩
  · by_cases hpi : p = i
    · subst hpi
      refine ⟨fun j hj => ?_, ?_, ?_, ?_⟩
      · rw [pk_un (by omega), pk_un (by omega)]; exact k1 j hj
      · rw [pk_un (by omega), pk_un (by omega), k2 _ (by omega), k3 _ (by omega), ← hG, ← hE, pk_us, pk_us, h2]
      · rw [pk_un (by omega), pk_us, if_pos (by omega)]
      · rw [pk_us, if_pos (by omega)]
    · obtain ⟨g1, g2, g3, g4⟩ := h.1 p hp
      refine ⟨fun j hj => ?_, ?_, ?_, ?_⟩
      · rw [pk_un (by omega), pk_un (by omega), k2 _ (by omega), k3 _ (by omega), ← hG, ← hE, pk_un (by omega), pk_un (by omega)]; exact g1 j hj
      · rw [pk_un (by omega), pk_un (by omega), k2 _ (by omega), k3 _ (by omega), ← hG, ← hE, pk_un (by omega), pk_un (by omega)]; exact g2
      · rw [pk_un (by omega), pk_un (by omega), k2 _ (by omega), k3 _ (by omega), ← hG, ← hE, pk_un (by omega), pk_un (by omega), g3]
        by_cases q : p < i
        · rw [if_pos q, if_pos (by omega)]
        · rw [if_neg q, if_neg (by omega)]
      · rw [pk_un (by omega), pk_un (by omega), k2 _ (by omega), k3 _ (by omega), ← hG, ← hE, pk_un (by omega), pk_un (by omega), g4]
        by_cases q : p < i
        · rw [if_pos q, if_pos (by omega)]
        · rw [if_neg q, if_neg (by omega)]
  · rw [pk_un (by omega), pk_un (by omega), k2 _ (by omega), k3 _ (by omega), ← hG, ← hE, pk_un (by omega), pk_un (by omega)]; exact h.2
theorem zlearn_o {E : Nat → Int32} {i k q : Nat} (h : q < i * 4 ∨ i * 4 + 4 ≤ q) (hk : k < 4) : zlearn E i k q = E q := by
  have hm4 : zmost (zrow E i) k 4 < 4 := zmost_lt _ (Nat.le_refl 4)
  unfold zlearn
  split
  · rw [pk_un (by omega), pk_un (by omega)]
  · rfl
theorem zpv1_eq {p : Nat} {f g : Nat → Int32} (h : ∀ k, k < 4 → g (p * 4 + k) = f (p * 4 + k)) (hv : zpv1 p f) : zpv1 p g := by
  obtain ⟨e, e1, e2⟩ := hv
  exact ⟨e, fun k hk => by rw [h k hk]; exact e1 k hk, e2⟩
theorem zcm_v {n k : Nat} {f : Nat → Int32} {rt fr : Int32} (hv : zpv n f) (hn : n ≤ 5) (hk : k < 4) : ∀ i, i ≤ n → zpv n (zcm f rt fr k i)
  | 0, _ => hv
  | i + 1, hi => by
    have ih := zcm_v (rt := rt) (fr := fr) hv hn hk i (by omega)
    intro p hp
    show zpv1 p (zlearn (upd (zcm f rt fr k i) (20 + i) _) i k)
    by_cases q : p = i
    · subst q
      exact zlearn_v (zpv1_eq (fun j hj => pk_un (by omega)) (ih p hp)) hk
    · exact zpv1_eq (fun j hj => by rw [zlearn_o (by omega) hk, pk_un (by omega)]) (ih p hp)
theorem zcome_v {n k : Nat} {f : Nat → Int32} {rt fr : Int32} (hv : zpv n f) (hn : n ≤ 5) (hk : k < 4) : zpv n (zcome f rt fr n k) := by
  intro p hp
  refine zpv1_eq (fun j hj => ?_) (zcm_v (rt := rt) (fr := fr) hv hn hk n (Nat.le_refl n) p hp)
  unfold zcome zfg; rw [if_neg (by omega), pk_un (by omega)]
