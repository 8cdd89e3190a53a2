/-! The reference's public methods, first half. -/
def zmdc (g : Nat → Int32) (pr : Int32) (p k : Nat) : Nat → Int32 := upd (upd g (7 * p + 5) (nI k)) (7 * p + 4) (upd g (7 * p + 5) (nI k) (7 * p + 4) - pr)
theorem zmdc_c {g f : Nat → Int32} {pr : Int32} {p k : Nat} (h : zp1 p f g) : 100000 + zmdc g pr p k (7 * p + 4) = f (20 + p) - pr + 100000 := by
  unfold zmdc; rw [pk_us, pk_un (by omega), h.2.1]; exact Int32.add_comm _ _
theorem zmt_own {f od : Nat → Int32} {rt fr : Int32} {p : Nat} : zmtd f od rt fr p (if (-9 : Int32) = -9 then f (25 + p) else -9) 4 = zmt f od rt fr p 4 := by
  rw [if_pos rfl]; exact zmtd_own f od rt fr p 4
theorem zmt_k {f od : Nat → Int32} {rt fr : Int32} {p k : Nat} (hp : p < 5) (hk : k < 4) : zmtd f od rt fr p (if nI k = -9 then f (25 + p) else nI k) 4 = zmt (zchg f p (k + 1)) od rt fr p 4 := by
  rw [if_neg (znk9 hk)]; exact zmtd_ch f od rt fr hp k
theorem zfour : ∀ d, d ≤ 8 → (1 : Int32) <<< (nI (2 * d) &&& 31) = nI (4 ^ d) := by decide +kernel
theorem zhas2_r {x : Int32} (h : zhas 2 x) : ¬ x < nI 0 ∧ x ≤ nI 1 := by
  obtain ⟨p, hp, rfl⟩ := zhas_of (by decide) h
  exact ⟨nI_pos (by omega), nI_le (by omega) (by decide)⟩
theorem zapa_zab : ∀ a, a ≤ 9 → ∀ q, q ≤ 9 → zapa (nI a) (nI q) = zab (nI a - nI q) := by decide +kernel
theorem zcg_le : ∀ a, a ≤ 9 → ∀ q, q ≤ 9 → ∀ b, b ≤ 9 → ∀ r, r ≤ 9 → zab (nI a - nI q) + zab (nI b - nI r) ≤ 18 := by decide +kernel
/-- the laws one behind another -/
def zns (f : Nat → Int32) (rt fr : Int32) (n k w : Nat) : Int32 × Int32 := znf f rt fr n k (w / 10) (znr f rt fr n k (w / 10)) (w % 10)
theorem zns_s (f : Nat → Int32) (rt fr : Int32) (n k w : Nat) : zns f rt fr n k (w + 1) = if (zns f rt fr n k w).2 ≤ zcg rt fr (w / 10) (w % 10) then zns f rt fr n k w else if zac f (nI (w / 10)) (nI (w % 10)) k n = true then (nI w, zcg rt fr (w / 10) (w % 10)) else zns f rt fr n k w := by
  have e0 : 10 * (w / 10) + w % 10 = w := Nat.div_add_mod w 10
  have h := znf_s f rt fr n k (w / 10) (znr f rt fr n k (w / 10)) (w % 10)
  rw [e0] at h
  rcases Nat.lt_or_ge (w % 10) 9 with q | q
  · have e1 : (w + 1) / 10 = w / 10 := by omega
    have e2 : (w + 1) % 10 = w % 10 + 1 := by omega
    unfold zns; rw [e1, e2]; exact h
  · have e1 : (w + 1) / 10 = w / 10 + 1 := by omega
    have e2 : (w + 1) % 10 = 0 := by omega
    have e3 : w % 10 + 1 = 10 := by omega
    rw [e3] at h
    unfold zns; rw [e1, e2]; exact h
theorem zac_st {f : Nat → Int32} {rt fr : Int32} {k i : Nat} (h : zac f rt fr k i = true) (h2 : ztax f rt fr i k ≤ f (20 + i)) : (1 : Int32) = if zac f rt fr k (i + 1) = true then 1 else 0 := by
  have e : zac f rt fr k (i + 1) = true := by
    show (zac f rt fr k i && decide _) = true
    rw [h, decide_eq_true h2]; rfl
  rw [if_pos e]
theorem zac_sf {f : Nat → Int32} {rt fr : Int32} {k i : Nat} (h2 : ¬ ztax f rt fr i k ≤ f (20 + i)) : (0 : Int32) = if zac f rt fr k (i + 1) = true then 1 else 0 := by
  have e : ¬ zac f rt fr k (i + 1) = true := by
    show ¬ (zac f rt fr k i && decide _) = true
    rw [decide_eq_false h2, Bool.and_false]; exact Bool.false_ne_true
  rw [if_neg e]
theorem zac_sn {f : Nat → Int32} {rt fr : Int32} {k i : Nat} (h : ¬ zac f rt fr k i = true) : (0 : Int32) = if zac f rt fr k (i + 1) = true then 1 else 0 := by
  have e : ¬ zac f rt fr k (i + 1) = true := by
    show ¬ (zac f rt fr k i && decide _) = true
    rw [Bool.eq_false_iff.mpr h]; exact Bool.false_ne_true
  rw [if_neg e]
theorem zit_v {n k : Nat} {f : Nat → Int32} {rt fr : Int32} (hv : zpv n f) (hn : n ≤ 5) (hk : k < 4) : ∀ e, zpv n (zit f rt fr n k e)
  | 0 => hv
  | e + 1 => zcome_v (zit_v hv hn hk e) hn hk
theorem zpg_v {n d w : Nat} {f : Nat → Int32} {rt fr : Int32} (hv : zpv n f) (hn : n ≤ 5) : ∀ i, zpv n (zpg f rt fr n d w i)
  | 0 => hv
  | i + 1 => zcome_v (zpg_v hv hn i) hn (zki_lt w d i)
theorem zge9 {a b : Int32} (h : -9 ≤ a) (h2 : ¬ b ≤ a) : -9 ≤ b := by
  rw [Int32.le_iff_toInt_le] at *; omega
theorem zsj_ge {f : Nat → Int32} {rt fr : Int32} {n p d : Nat} {jr : Int32} : ∀ w, -9 ≤ (zsj f rt fr n p d jr w).1
  | 0 => Int32.le_refl _
  | w + 1 => by
    have ih := zsj_ge (f := f) (rt := rt) (fr := fr) (n := n) (p := p) (d := d) (jr := jr) w
    rw [zsj_s]; split
    · exact ih
    · rename_i h; exact zge9 ih h
theorem zjZ_mono {f : Nat → Int32} {rt fr : Int32} {n p d w i : Nat} (h : ¬ zjZ f rt fr n p d w i = true) : ∀ {c : Nat}, i ≤ c → ¬ zjZ f rt fr n p d w c = true
  | 0, hc => by
    have e : i = 0 := by omega
    subst e; exact h
  | c + 1, hc => by
    rcases Nat.lt_or_ge c i with q | q
    · have e : i = c + 1 := by omega
      subst e; exact h
    · have ih := zjZ_mono h (c := c) q
      show ¬ (zjZ f rt fr n p d w c && decide _) = true
      rw [Bool.eq_false_iff.mpr ih]; exact Bool.false_ne_true
theorem zjZ_st {f : Nat → Int32} {rt fr : Int32} {n p d w i : Nat} (h : zjZ f rt fr n p d w i = true) (h2 : ztax (zpg f rt fr n d w i) rt fr p (zki w d i) = 0) : (1 : Int32) = if zjZ f rt fr n p d w (i + 1) = true then 1 else 0 := by rw [if_pos (zjZ_s h h2)]
theorem zjZ_sf {f : Nat → Int32} {rt fr : Int32} {n p d w i : Nat} (h2 : ¬ ztax (zpg f rt fr n d w i) rt fr p (zki w d i) = 0) : (0 : Int32) = if zjZ f rt fr n p d w (i + 1) = true then 1 else 0 := by
  have e : ¬ zjZ f rt fr n p d w (i + 1) = true := by
    show ¬ (zjZ f rt fr n p d w i && decide _) = true
    rw [decide_eq_false h2, Bool.and_false]; exact Bool.false_ne_true
  rw [if_neg e]
theorem zjZ_b {f : Nat → Int32} {rt fr : Int32} {n p d w i : Nat} (h : zjZ f rt fr n p d w (i + 1) = true) : zjZ f rt fr n p d w i = true := by
  rw [show zjZ f rt fr n p d w (i + 1) = (zjZ f rt fr n p d w i && decide _) from rfl, Bool.and_eq_true] at h
  exact h.1
theorem zdown_t {j : Nat} (hj : j < 2147483648) (h : nI j - 1 < 0) : j = 0 := by
  rcases Nat.eq_zero_or_pos j with q | q
  · exact q
  · have e : nI j - 1 = nI (j - 1) := pk_sub q
    rw [e] at h; exact absurd h (nI_pos (by omega))
theorem zdown_f {j : Nat} (h : ¬ nI j - 1 < 0) : 0 < j ∧ nI j - 1 = nI (j - 1) := by
  rcases Nat.eq_zero_or_pos j with q | q
  · subst q; exact absurd (by decide) h
  · exact ⟨q, pk_sub q⟩
theorem zsj_skip {f : Nat → Int32} {rt fr : Int32} {n p d : Nat} {jr : Int32} {w : Nat} (h : ¬ zjZ f rt fr n p d w d = true) : zsj f rt fr n p d jr w = zsj f rt fr n p d jr (w + 1) := by
  rw [zsj_s]
  have e : zjo f rt fr n p d w = -9 := by unfold zjo; rw [if_neg h]
  rw [e, if_pos (zsj_ge w)]
theorem zsj_le {f : Nat → Int32} {rt fr : Int32} {n p d : Nat} {jr : Int32} {w : Nat} (h : zjZ f rt fr n p d w d = true) (h2 : zjS f rt fr n d w d ≤ (zsj f rt fr n p d jr w).1) : zsj f rt fr n p d jr w = zsj f rt fr n p d jr (w + 1) := by
  rw [zsj_s]
  have e : zjo f rt fr n p d w = zjS f rt fr n d w d := by unfold zjo; rw [if_pos h]
  rw [e, if_pos h2]
theorem zsj_gt {f : Nat → Int32} {rt fr : Int32} {n p d : Nat} {jr : Int32} {w : Nat} (h : zjZ f rt fr n p d w d = true) (h2 : ¬ zjS f rt fr n d w d ≤ (zsj f rt fr n p d jr w).1) : (zjS f rt fr n d w d, nI w) = zsj f rt fr n p d jr (w + 1) := by
  rw [zsj_s]
  have e : zjo f rt fr n p d w = zjS f rt fr n d w d := by unfold zjo; rw [if_pos h]
  rw [e, if_neg h2]
theorem zch_cases {f od : Nat → Int32} {rt fr pr : Int32} {p : Nat} : ∀ c, c ≤ 4 → ((zch f od rt fr pr p c).1 = -9 ∧ (zch f od rt fr pr p c).2 = zmt f od rt fr p 4) ∨ ∃ k, k < 4 ∧ (zch f od rt fr pr p c).1 = nI k ∧ (zch f od rt fr pr p c).2 = 10 * pr + zmt (zchg f p (k + 1)) od rt fr p 4
  | 0, _ => Or.inl ⟨rfl, rfl⟩
  | c + 1, hc => by
    rw [zch_s]; split
    · exact zch_cases c (by omega)
    · exact Or.inr ⟨c, by omega, rfl, rfl⟩
theorem zch_k {f od : Nat → Int32} {rt fr pr : Int32} {p : Nat} (h : ¬ (zch f od rt fr pr p 4).1 = -9) : ∃ k, k < 4 ∧ (zch f od rt fr pr p 4).1 = nI k := by
  rcases zch_cases (f := f) (od := od) (rt := rt) (fr := fr) (pr := pr) (p := p) 4 (Nat.le_refl 4) with q | ⟨k, h1, h2, h3⟩
  · exact absurd q.1 h
  · exact ⟨k, h1, h2⟩
theorem zch_n {f od : Nat → Int32} {rt fr pr : Int32} {p : Nat} (h : (zch f od rt fr pr p 4).1 = -9) : (zch f od rt fr pr p 4).2 = zmt f od rt fr p 4 := by
  rcases zch_cases (f := f) (od := od) (rt := rt) (fr := fr) (pr := pr) (p := p) 4 (Nat.le_refl 4) with q | ⟨k, h1, h2, h3⟩
  · exact q.2
  · rw [h2] at h; exact absurd h (znk9 h1)
theorem zch_y {f od : Nat → Int32} {rt fr pr : Int32} {p k : Nat} (hk : k < 4) (h : (zch f od rt fr pr p 4).1 = nI k) : (zch f od rt fr pr p 4).2 = 10 * pr + zmt (zchg f p (k + 1)) od rt fr p 4 := by
  rcases zch_cases (f := f) (od := od) (rt := rt) (fr := fr) (pr := pr) (p := p) 4 (Nat.le_refl 4) with q | ⟨j, h1, h2, h3⟩
  · rw [q.1] at h; exact absurd h.symm (znk9 hk)
  · rw [h2] at h
    have e := zeq (i := j) (j := k) (by omega) (by omega) h
    subst e; exact h3
