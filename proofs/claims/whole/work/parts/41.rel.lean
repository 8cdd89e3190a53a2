/-! Both systems side by side: pages, the ring against the book, what is kept. -/
theorem zpr_eq {n : Nat} {f f2 g g2 : Nat → Int32} (hn : n ≤ 5) (hf : ∀ j, j < 36 → f2 j = f j) (hg : ∀ j, j < 36 → g2 j = g j) (h : zpr n f g) : zpr n f2 g2 := by
  refine ⟨fun p hp => ?_, by rw [hf 35 (by decide), hg 35 (by decide)]; exact h.2⟩
  obtain ⟨h1, h2, h3, h4⟩ := h.1 p hp
  refine ⟨fun k hk => ?_, ?_, ?_, ?_⟩
  · rw [hf _ (by omega), hg _ (by omega)]; exact h1 k hk
  · rw [hf _ (by omega), hg _ (by omega)]; exact h2
  · rw [hf _ (by omega), hg _ (by omega)]; exact h3
  · rw [hf _ (by omega), hg _ (by omega)]; exact h4
theorem zpv_eq {n : Nat} {f f2 : Nat → Int32} (hn : n ≤ 5) (hf : ∀ j, j < 36 → f2 j = f j) (h : zpv n f) : zpv n f2 := fun p hp => zpv1_eq (fun k hk => hf _ (by omega)) (h p hp)
def zat (b : Nat → Int32) (o : Nat) : Nat → Int32 := fun j => b (o + j)
theorem zat_src {g b : Nat → Int32} {o : Nat} : ∀ j, j < 36 → va_cpy b g o 0 36 j = zat b o j := by
  intro j hj
  unfold va_cpy zat; rw [if_pos ⟨Nat.zero_le _, by omega⟩]; congr 1
theorem zat_dst {g b : Nat → Int32} {o : Nat} : ∀ j, j < 36 → zat (va_cpy g b 0 o 36) o j = g j := by
  intro j hj
  unfold zat va_cpy; rw [if_pos ⟨by omega, by omega⟩]; congr 1; omega
theorem zat_out {g b : Nat → Int32} {o q : Nat} (h : q + 36 ≤ o ∨ o + 36 ≤ q) : ∀ j, j < 36 → zat (va_cpy g b 0 o 36) q j = zat b q j := by
  intro j hj
  unfold zat va_cpy; rw [if_neg (by omega)]
/-- the ring and the book: the t-th last act -/
def zbook (n cn nx : Nat) (sf bk : Nat → Int32) : Prop := ∀ t, t < cn → zpr n (zat sf ((nx + 11 - t) % 12 * 36)) (zat bk (36 * (cn - 1 - t))) ∧ zpv n (zat sf ((nx + 11 - t) % 12 * 36))
theorem zcn_na {cn : Nat} (h : cn ≤ 12) : zna cn + 1 = zcn cn := by
  unfold zna zcn; split <;> split <;> omega
theorem zbook_note {n cn nx : Nat} {sf bk f g : Nat → Int32} (hn : n ≤ 5) (hc : cn ≤ 12) (hx : nx < 12) (hb : zbook n cn nx sf bk) (hr : zpr n f g) (hv : zpv n f) : zbook n (zcn cn) (znx nx) (va_cpy f sf 0 (nx * 36) 36) (znote g bk cn) := by
  intro t ht
  have hz := zcn_na hc
  have hna : zna cn ≤ 11 := by unfold zna; split <;> omega
  have hnx : znx nx = (nx + 1) % 12 := by unfold znx; split <;> omega
  unfold znote
  by_cases h0 : t = 0
  · have e1 : (znx nx + 11 - t) % 12 * 36 = nx * 36 := by rw [hnx, h0]; omega
    have e2 : 36 * (zcn cn - 1 - t) = 36 * zna cn := by rw [← hz, h0]; omega
    rw [e1, e2]
    exact ⟨zpr_eq hn zat_dst zat_dst hr, zpv_eq hn zat_dst hv⟩
  · obtain ⟨u, rfl⟩ : ∃ u, t = u + 1 := ⟨t - 1, by omega⟩
    have hu : u < cn := by rw [← hz] at ht; unfold zna at ht; split at ht <;> omega
    obtain ⟨h1, h2⟩ := hb u hu
    have e1 : (znx nx + 11 - (u + 1)) % 12 = (nx + 11 - u) % 12 := by rw [hnx]; omega
    have hne : (nx + 11 - u) % 12 * 36 + 36 ≤ nx * 36 ∨ nx * 36 + 36 ≤ (nx + 11 - u) % 12 * 36 := by
      have : u ≤ 10 := by omega
      omega
    rw [e1]
    refine ⟨zpr_eq hn (zat_out hne) (fun j hj => ?_) h1, zpv_eq hn (zat_out hne) h2⟩
    rw [zat_out (by omega) j hj]
    unfold zat zbk
    by_cases q : cn = 12
    · rw [if_pos q]
      unfold zshf; rw [if_pos (by omega)]
      congr 1
      rw [← hz]; unfold zna; rw [if_pos q]; omega
    · rw [if_neg q]
      congr 1
      rw [← hz]; unfold zna; rw [if_neg q]; omega
theorem zbook_undo {n cn nx : Nat} {sf bk f g : Nat → Int32} (hn : n ≤ 5) (hc : cn ≤ 12) (hx : nx < 12) (h0 : 0 < cn) (hb : zbook n cn nx sf bk) : zpr n (va_cpy sf f (zpx nx * 36) 0 36) (va_cpy bk g (36 * (cn - 1)) 0 36) ∧ zpv n (va_cpy sf f (zpx nx * 36) 0 36) ∧ zbook n (cn - 1) (zpx nx) sf bk ∧ zpx nx < 12 := by
  have hpx : zpx nx = (nx + 11) % 12 := by unfold zpx; split <;> omega
  obtain ⟨h1, h2⟩ := hb 0 h0
  rw [show nx + 11 - 0 = nx + 11 by omega, ← hpx, show cn - 1 - 0 = cn - 1 by omega] at h1
  rw [show nx + 11 - 0 = nx + 11 by omega, ← hpx] at h2
  refine ⟨zpr_eq hn zat_src zat_src h1, zpv_eq hn zat_src h2, fun t ht => ?_, by omega⟩
  obtain ⟨h3, h4⟩ := hb (t + 1) (by omega)
  have e1 : (zpx nx + 11 - t) % 12 = (nx + 11 - (t + 1)) % 12 := by rw [hpx]; omega
  have e2 : cn - 1 - 1 - t = cn - 1 - (t + 1) := by omega
  rw [e1, e2]; exact ⟨h3, h4⟩
def zkeep (n : Nat) (yf kf ke : Nat → Int32) : Prop := ∀ k, k < 2 → ¬ kf k = 0 → zpr n (zat yf (k * 36)) (zat ke (36 * k)) ∧ zpv n (zat yf (k * 36))
theorem zkeep_put {n k : Nat} {yf kf ke f g : Nat → Int32} (hn : n ≤ 5) (hk : k < 2) (h : zkeep n yf kf ke) (hr : zpr n f g) (hv : zpv n f) : zkeep n (va_cpy f yf 0 (k * 36) 36) (upd kf k 1) (va_cpy g ke 0 (36 * k) 36) := by
  intro q hq hz
  by_cases e : q = k
  · subst e
    exact ⟨zpr_eq hn zat_dst zat_dst hr, zpv_eq hn zat_dst hv⟩
  · rw [pk_un e] at hz
    obtain ⟨h1, h2⟩ := h q hq hz
    exact ⟨zpr_eq hn (zat_out (by omega)) (zat_out (by omega)) h1, zpv_eq hn (zat_out (by omega)) h2⟩
theorem zkeep_get {n k : Nat} {yf kf ke f g : Nat → Int32} (hn : n ≤ 5) (hk : k < 2) (hz : ¬ kf k = 0) (h : zkeep n yf kf ke) : zpr n (va_cpy yf f (k * 36) 0 36) (va_cpy ke g (36 * k) 0 36) ∧ zpv n (va_cpy yf f (k * 36) 0 36) := by
  obtain ⟨h1, h2⟩ := h k hk hz
  exact ⟨zpr_eq hn zat_src zat_src h1, zpv_eq hn zat_src h2⟩
def zREL (len n cn nx cr q5 r5 s5 : Nat) (od nv rd f sf yf kf pw mv md g bk ke : Nat → Int32) : Prop :=
  (len ≤ 64 ∧ n ≤ 5 ∧ cn ≤ 12 ∧ nx < 12 ∧ cr ≤ 6 ∧ q5 ≤ 9 ∧ r5 ≤ 9 ∧ s5 ≤ 9) ∧ zov od ∧ (∀ i, i < cr → ∃ a, a < 5 ∧ pw i = nI a) ∧ (∀ p, p < n → md p = rd p) ∧ (∀ p, p < n → mv p = nv p) ∧ zpr n f g ∧ zpv n f ∧ zbook n cn nx sf bk ∧ zkeep n yf kf ke ∧ ∀ k, k < 2 → kf k = 0 ∨ kf k = 1
theorem zWR_c {len : Nat} {x1 : Int32} : (∀ (α : Type) (A B : α), zRa 0 255 x1 (fun _ => if len < 64 then A else B) B = B) ∨ (len < 64 ∧ ∀ (α : Type) (A B : α), zRa 0 255 x1 (fun _ => if len < 64 then A else B) B = A) := by
  by_cases h : ¬ x1 < nI 0 ∧ x1 ≤ nI 255
  · by_cases q : len < 64
    · refine Or.inr ⟨q, fun α A B => ?_⟩
      unfold zRa; rw [if_pos h, if_pos q]
    · refine Or.inl (fun α A B => ?_)
      unfold zRa; rw [if_pos h, if_neg q]
  · refine Or.inl (fun α A B => ?_)
    unfold zRa; rw [if_neg h]
theorem zDC_c {n : Nat} {x1 x2 : Int32} {f : Nat → Int32} (hn : n ≤ 5) : (∀ (α : Type) (F : Nat → Nat → α) (B : α), zPa n x1 (fun p => zKa x2 (fun k => if f (25 + p) = -9 then F p k else B) B) B = B) ∨ ∃ p k, p < n ∧ k < 4 ∧ f (25 + p) = -9 ∧ ∀ (α : Type) (F : Nat → Nat → α) (B : α), zPa n x1 (fun p => zKa x2 (fun k => if f (25 + p) = -9 then F p k else B) B) B = F p k := by
  by_cases h : zhas n x1
  · obtain ⟨p, hp, rfl⟩ := zhas_of (by omega) h
    by_cases h2 : zkind x2
    · obtain ⟨k, hk, rfl⟩ := zkind_of h2
      by_cases h3 : f (25 + p) = -9
      · exact Or.inr ⟨p, k, hp, hk, h3, fun α F B => by rw [zPa_y hp hn, zKa_y hk, if_pos h3]⟩
      · exact Or.inl (fun α F B => by rw [zPa_y hp hn, zKa_y hk, if_neg h3])
    · exact Or.inl (fun α F B => by rw [zPa_y hp hn, zKa_n h2])
  · exact Or.inl (fun α F B => by rw [zPa_n h])
theorem zTO_c {n : Nat} {x1 x2 : Int32} {f rd : Nat → Int32} (hn : n ≤ 5) : (∀ (α : Type) (F : Nat → Nat → α) (B : α), zPa n x1 (fun p => zPa n x2 (fun q => if zTO f rd p q then F p q else B) B) B = B) ∨ ∃ p q, p < n ∧ q < n ∧ zTO f rd p q ∧ ∀ (α : Type) (F : Nat → Nat → α) (B : α), zPa n x1 (fun p => zPa n x2 (fun q => if zTO f rd p q then F p q else B) B) B = F p q := by
  by_cases h : zhas n x1
  · obtain ⟨p, hp, rfl⟩ := zhas_of (by omega) h
    by_cases h2 : zhas n x2
    · obtain ⟨q, hq, rfl⟩ := zhas_of (by omega) h2
      by_cases h3 : zTO f rd p q
      · exact Or.inr ⟨p, q, hp, hq, h3, fun α F B => by rw [zPa_y hp hn, zPa_y hq hn, if_pos h3]⟩
      · exact Or.inl (fun α F B => by rw [zPa_y hp hn, zPa_y hq hn, if_neg h3])
    · exact Or.inl (fun α F B => by rw [zPa_y hp hn, zPa_n h2])
  · exact Or.inl (fun α F B => by rw [zPa_n h])
theorem zKa_c {x1 : Int32} : (∀ (α : Type) (F : Nat → α) (B : α), zKa x1 F B = B) ∨ ∃ k, k < 4 ∧ ∀ (α : Type) (F : Nat → α) (B : α), zKa x1 F B = F k := by
  by_cases h : zkind x1
  · obtain ⟨k, hk, rfl⟩ := zkind_of h
    exact Or.inr ⟨k, hk, fun α F B => zKa_y hk⟩
  · exact Or.inl (fun α F B => zKa_n h)
theorem zP2_c {x1 : Int32} : (∀ (α : Type) (F : Nat → α) (B : α), zPa 2 x1 F B = B) ∨ ∃ k, k < 2 ∧ ∀ (α : Type) (F : Nat → α) (B : α), zPa 2 x1 F B = F k := by
  by_cases h : zhas 2 x1
  · obtain ⟨k, hk, rfl⟩ := zhas_of (by decide) h
    exact Or.inr ⟨k, hk, fun α F B => zPa_y hk (by decide)⟩
  · exact Or.inl (fun α F B => zPa_n h)
theorem zRL_c {n cr : Nat} {x1 x2 : Int32} (hn : n ≤ 5) : (∀ (α : Type) (F : Nat → Nat → α) (B : α), zPa n x1 (fun p => zRa 0 99 x2 (fun t => if cr < 6 then F p t else B) B) B = B) ∨ ∃ p t, p < n ∧ cr < 6 ∧ ∀ (α : Type) (F : Nat → Nat → α) (B : α), zPa n x1 (fun p => zRa 0 99 x2 (fun t => if cr < 6 then F p t else B) B) B = F p t := by
  by_cases h : zhas n x1
  · obtain ⟨p, hp, rfl⟩ := zhas_of (by omega) h
    by_cases h2 : ¬ x2 < nI 0 ∧ x2 ≤ nI 99
    · by_cases h3 : cr < 6
      · exact Or.inr ⟨p, x2.toNatClampNeg, hp, h3, fun α F B => by rw [zPa_y hp hn]; unfold zRa; rw [if_pos h2]; exact if_pos h3⟩
      · exact Or.inl (fun α F B => by rw [zPa_y hp hn]; unfold zRa; rw [if_pos h2]; exact if_neg h3)
    · exact Or.inl (fun α F B => by rw [zPa_y hp hn]; unfold zRa; rw [if_neg h2])
  · exact Or.inl (fun α F B => by rw [zPa_n h])
theorem zcnx {cn nx : Nat} (h3 : cn ≤ 12) (h4 : nx < 12) : zcn cn ≤ 12 ∧ znx nx < 12 := by
  unfold zcn znx; constructor <;> split <;> omega
theorem zrel_write {len n cn nx cr q5 r5 s5 : Nat} {od nv rd f sf yf kf pw mv md g bk ke : Nat → Int32} {x1 : Int32} (h : zREL len n cn nx cr q5 r5 s5 od nv rd f sf yf kf pw mv md g bk ke) : zREL (zRa 0 255 x1 (fun _ => if len < 64 then len + 1 else len) len) n cn nx cr q5 r5 s5 od nv rd f sf yf kf pw mv md g bk ke := by
  obtain ⟨⟨h1, h2, h3, h4, h5, h6, h7, h8⟩, h9, h10, h11, h12, h13, h14, h15, h16, h17⟩ := id h
  rcases zWR_c (len := len) (x1 := x1) with hz | ⟨hl, hz⟩
  · rw [hz]; exact h
  · rw [hz]; exact ⟨⟨by omega, h2, h3, h4, h5, h6, h7, h8⟩, h9, h10, h11, h12, h13, h14, h15, h16, h17⟩
theorem zrel_wipe {len n cn nx cr q5 r5 s5 : Nat} {od nv rd f sf yf kf pw mv md g bk ke : Nat → Int32} (h : zREL len n cn nx cr q5 r5 s5 od nv rd f sf yf kf pw mv md g bk ke) : zREL (0) n cn nx cr q5 r5 s5 od nv rd f sf yf kf pw mv md g bk ke := by
  obtain ⟨⟨h1, h2, h3, h4, h5, h6, h7, h8⟩, h9, h10, h11, h12, h13, h14, h15, h16, h17⟩ := id h
  exact ⟨⟨by omega, h2, h3, h4, h5, h6, h7, h8⟩, h9, h10, h11, h12, h13, h14, h15, h16, h17⟩
theorem zpr_dec {n p k : Nat} {f g : Nat → Int32} {v : Int32} (hn : n ≤ 5) (hp : p < n) (hr : zpr n f g) : zpr n (upd (upd f (20 + p) (f (20 + p) - v)) (25 + p) (nI k)) (zmdc g v p k) := by
  have h4p := (hr.1 p hp).2.1
  unfold zmdc
  rw [pk_un (show 7 * p + 4 ≠ 7 * p + 5 by omega), h4p]
  refine ⟨fun q hq => ?_, ?_⟩
  · obtain ⟨h1, h2, h3, h4⟩ := hr.1 q hq
    by_cases e : q = p
    · subst e
      refine ⟨fun j hj => ?_, ?_, ?_, ?_⟩
      · rw [pk_un (by omega), pk_un (by omega), pk_un (by omega), pk_un (by omega)]; exact h1 j hj
      · rw [pk_us, pk_un (by omega), pk_us]
      · rw [pk_un (by omega), pk_us, pk_us]
      · rw [pk_un (by omega), pk_un (by omega), pk_un (by omega), pk_un (by omega)]; exact h4
    · refine ⟨fun j hj => ?_, ?_, ?_, ?_⟩
      · rw [pk_un (by omega), pk_un (by omega), pk_un (by omega), pk_un (by omega)]; exact h1 j hj
      · rw [pk_un (by omega), pk_un (by omega), pk_un (by omega), pk_un (by omega)]; exact h2
      · rw [pk_un (by omega), pk_un (by omega), pk_un (by omega), pk_un (by omega)]; exact h3
      · rw [pk_un (by omega), pk_un (by omega), pk_un (by omega), pk_un (by omega)]; exact h4
  · rw [pk_un (by omega), pk_un (by omega), pk_un (by omega), pk_un (by omega)]; exact hr.2
theorem zpr_tell {n q : Nat} {f g : Nat → Int32} {v : Int32} (hn : n ≤ 5) (hq : q < n) (hr : zpr n f g) : zpr n (upd f (30 + q) v) (upd g (7 * q + 6) v) := by
  refine ⟨fun p hp => ?_, ?_⟩
  · obtain ⟨h1, h2, h3, h4⟩ := hr.1 p hp
    by_cases e : p = q
    · subst e
      refine ⟨fun j hj => ?_, ?_, ?_, ?_⟩
      · rw [pk_un (by omega), pk_un (by omega)]; exact h1 j hj
      · rw [pk_un (by omega), pk_un (by omega)]; exact h2
      · rw [pk_un (by omega), pk_un (by omega)]; exact h3
      · rw [pk_us, pk_us]
    · refine ⟨fun j hj => ?_, ?_, ?_, ?_⟩
      · rw [pk_un (by omega), pk_un (by omega)]; exact h1 j hj
      · rw [pk_un (by omega), pk_un (by omega)]; exact h2
      · rw [pk_un (by omega), pk_un (by omega)]; exact h3
      · rw [pk_un (by omega), pk_un (by omega)]; exact h4
  · rw [pk_un (by omega), pk_un (by omega)]; exact hr.2
theorem zpv_dec {n p k : Nat} {f : Nat → Int32} {v : Int32} (hn : n ≤ 5) (hp : p < n) (hv : zpv n f) : zpv n (upd (upd f (20 + p) v) (25 + p) (nI k)) := fun q hq => zpv1_eq (fun j hj => by rw [pk_un (by omega), pk_un (by omega)]) (hv q hq)
theorem zpv_tell {n q : Nat} {f : Nat → Int32} {v : Int32} (hn : n ≤ 5) (hq : q < n) (hv : zpv n f) : zpv n (upd f (30 + q) v) := fun p hp => zpv1_eq (fun j hj => by rw [pk_un (by omega)]) (hv p hp)
theorem zrel_declare {len n cn nx cr q5 r5 s5 : Nat} {od nv rd f sf yf kf pw mv md g bk ke : Nat → Int32} {x1 x2 : Int32} (h : zREL len n cn nx cr q5 r5 s5 od nv rd f sf yf kf pw mv md g bk ke) : zREL len n (zPa n x1 (fun p => zKa x2 (fun k => if f (25 + p) = -9 then zcn cn else cn) cn) cn) (zPa n x1 (fun p => zKa x2 (fun k => if f (25 + p) = -9 then znx nx else nx) nx) nx) cr q5 r5 s5 od nv rd (zPa n x1 (fun p => zKa x2 (fun k => if f (25 + p) = -9 then upd (upd f (20 + p) (f (20 + p) - (nI s5))) (25 + p) (nI k) else f) f) f) (zPa n x1 (fun p => zKa x2 (fun k => if f (25 + p) = -9 then va_cpy f sf 0 (nx * 36) 36 else sf) sf) sf) yf kf pw mv md (zPa n x1 (fun p => zKa x2 (fun k => if f (25 + p) = -9 then zmdc g (nI s5) p k else g) g) g) (zPa n x1 (fun p => zKa x2 (fun k => if f (25 + p) = -9 then znote g bk cn else bk) bk) bk) ke := by
  obtain ⟨⟨h1, h2, h3, h4, h5, h6, h7, h8⟩, h9, h10, h11, h12, h13, h14, h15, h16, h17⟩ := id h
  rcases zDC_c (x1 := x1) (x2 := x2) (f := f) h2 with hz | ⟨p, k, hp, hk, hc, hz⟩
  · simp only [hz]; exact h
  · simp only [hz]
    have hcx := zcnx h3 h4
    exact ⟨⟨h1, h2, hcx.1, hcx.2, h5, h6, h7, h8⟩, h9, h10, h11, h12, zpr_dec h2 hp h13, zpv_dec h2 hp h14, zbook_note h2 h3 h4 h15 h13 h14, h16, h17⟩
theorem zrel_tellOn {len n cn nx cr q5 r5 s5 : Nat} {od nv rd f sf yf kf pw mv md g bk ke : Nat → Int32} {x1 x2 : Int32} (h : zREL len n cn nx cr q5 r5 s5 od nv rd f sf yf kf pw mv md g bk ke) : zREL len n (zPa n x1 (fun p => zPa n x2 (fun q => if zTO f rd p q then zcn cn else cn) cn) cn) (zPa n x1 (fun p => zPa n x2 (fun q => if zTO f rd p q then znx nx else nx) nx) nx) cr q5 r5 s5 od nv rd (zPa n x1 (fun p => zPa n x2 (fun q => if zTO f rd p q then upd f (30 + q) (f (25 + p)) else f) f) f) (zPa n x1 (fun p => zPa n x2 (fun q => if zTO f rd p q then va_cpy f sf 0 (nx * 36) 36 else sf) sf) sf) yf kf pw mv md (zPa n x1 (fun p => zPa n x2 (fun q => if zTO f rd p q then upd g (7 * q + 6) (f (25 + p)) else g) g) g) (zPa n x1 (fun p => zPa n x2 (fun q => if zTO f rd p q then znote g bk cn else bk) bk) bk) ke := by
  obtain ⟨⟨h1, h2, h3, h4, h5, h6, h7, h8⟩, h9, h10, h11, h12, h13, h14, h15, h16, h17⟩ := id h
  rcases zTO_c (x1 := x1) (x2 := x2) (f := f) (rd := rd) h2 with hz | ⟨p, q, hp, hq, hc, hz⟩
  · simp only [hz]; exact h
  · simp only [hz]
    have hcx := zcnx h3 h4
    exact ⟨⟨h1, h2, hcx.1, hcx.2, h5, h6, h7, h8⟩, h9, h10, h11, h12, zpr_tell h2 hq h13, zpv_tell h2 hq h14, zbook_note h2 h3 h4 h15 h13 h14, h16, h17⟩
theorem zrel_event {len n cn nx cr q5 r5 s5 : Nat} {od nv rd f sf yf kf pw mv md g bk ke : Nat → Int32} {x1 : Int32} {g2 : Nat → Int32} (h : zREL len n cn nx cr q5 r5 s5 od nv rd f sf yf kf pw mv md g bk ke) (hg : zpr n (zKa x1 (fun k => zcome f (nI q5) (nI r5) n k) f) g2) : zREL len n (zKa x1 (fun k => zcn cn) cn) (zKa x1 (fun k => znx nx) nx) cr q5 r5 s5 od nv rd (zKa x1 (fun k => zcome f (nI q5) (nI r5) n k) f) (zKa x1 (fun k => va_cpy f sf 0 (nx * 36) 36) sf) yf kf pw mv md (g2) (zKa x1 (fun k => znote g bk cn) bk) ke := by
  obtain ⟨⟨h1, h2, h3, h4, h5, h6, h7, h8⟩, h9, h10, h11, h12, h13, h14, h15, h16, h17⟩ := id h
  rcases zKa_c (x1 := x1) with hz | ⟨k, hk, hz⟩
  · simp only [hz] at hg ⊢
    exact ⟨⟨h1, h2, h3, h4, h5, h6, h7, h8⟩, h9, h10, h11, h12, hg, h14, h15, h16, h17⟩
  · simp only [hz] at hg ⊢
    have hcx := zcnx h3 h4
    exact ⟨⟨h1, h2, hcx.1, hcx.2, h5, h6, h7, h8⟩, h9, h10, h11, h12, hg, zcome_v h14 h2 hk, zbook_note h2 h3 h4 h15 h13 h14, h16, h17⟩
theorem zrel_undo {len n cn nx cr q5 r5 s5 : Nat} {od nv rd f sf yf kf pw mv md g bk ke : Nat → Int32} (h : zREL len n cn nx cr q5 r5 s5 od nv rd f sf yf kf pw mv md g bk ke) : zREL len n (cn - 1) (if cn = 0 then nx else zpx nx) cr q5 r5 s5 od nv rd (if cn = 0 then f else va_cpy sf f (zpx nx * 36) 0 36) sf yf kf pw mv md (if cn = 0 then g else va_cpy bk g (36 * (cn - 1)) 0 36) bk ke := by
  obtain ⟨⟨h1, h2, h3, h4, h5, h6, h7, h8⟩, h9, h10, h11, h12, h13, h14, h15, h16, h17⟩ := id h
  by_cases q : cn = 0
  · rw [if_pos q, if_pos q, if_pos q]
    exact ⟨⟨h1, h2, by omega, h4, h5, h6, h7, h8⟩, h9, h10, h11, h12, h13, h14, fun t ht => absurd ht (by omega), h16, h17⟩
  · rw [if_neg q, if_neg q, if_neg q]
    obtain ⟨u1, u2, u3, u4⟩ := zbook_undo (f := f) (g := g) h2 h3 h4 (by omega) h15
    exact ⟨⟨h1, h2, by omega, u4, h5, h6, h7, h8⟩, h9, h10, h11, h12, u1, u2, u3, h16, h17⟩
theorem zrel_roll {len n cn nx cr q5 r5 s5 : Nat} {od nv rd f sf yf kf pw mv md g bk ke : Nat → Int32} {x1 x2 : Int32} (h : zREL len n cn nx cr q5 r5 s5 od nv rd f sf yf kf pw mv md g bk ke) : zREL len n cn nx (zPa n x1 (fun p => zRa 0 99 x2 (fun t => if cr < 6 then cr + 1 else cr) cr) cr) q5 r5 s5 od nv rd f sf yf kf (zPa n x1 (fun p => zRa 0 99 x2 (fun t => if cr < 6 then upd pw cr (nI p) else pw) pw) pw) mv md g bk ke := by
  obtain ⟨⟨h1, h2, h3, h4, h5, h6, h7, h8⟩, h9, h10, h11, h12, h13, h14, h15, h16, h17⟩ := id h
  rcases zRL_c (cr := cr) (x1 := x1) (x2 := x2) h2 with hz | ⟨p, t, hp, hc, hz⟩
  · simp only [hz]; exact h
  · simp only [hz]
    refine ⟨⟨h1, h2, h3, h4, by omega, h6, h7, h8⟩, h9, fun i hi => ?_, h11, h12, h13, h14, h15, h16, h17⟩
    by_cases e : i = cr
    · exact ⟨p, by omega, by rw [e, pk_us]⟩
    · rw [pk_un e]; exact h10 i (by omega)
theorem zrel_unroll {len n cn nx cr q5 r5 s5 : Nat} {od nv rd f sf yf kf pw mv md g bk ke : Nat → Int32} (h : zREL len n cn nx cr q5 r5 s5 od nv rd f sf yf kf pw mv md g bk ke) : zREL len n cn nx (0) q5 r5 s5 od nv rd f sf yf kf pw mv md g bk ke := by
  obtain ⟨⟨h1, h2, h3, h4, h5, h6, h7, h8⟩, h9, h10, h11, h12, h13, h14, h15, h16, h17⟩ := id h
  exact ⟨⟨h1, h2, h3, h4, by omega, h6, h7, h8⟩, h9, fun i hi => absurd hi (Nat.not_lt_zero _), h11, h12, h13, h14, h15, h16, h17⟩
theorem zrel_keep {len n cn nx cr q5 r5 s5 : Nat} {od nv rd f sf yf kf pw mv md g bk ke : Nat → Int32} {x1 : Int32} (h : zREL len n cn nx cr q5 r5 s5 od nv rd f sf yf kf pw mv md g bk ke) : zREL len n cn nx cr q5 r5 s5 od nv rd f sf (zPa 2 x1 (fun k => va_cpy f yf 0 (k * 36) 36) yf) (zPa 2 x1 (fun k => upd kf k 1) kf) pw mv md g bk (zPa 2 x1 (fun k => va_cpy g ke 0 (36 * k) 36) ke) := by
  obtain ⟨⟨h1, h2, h3, h4, h5, h6, h7, h8⟩, h9, h10, h11, h12, h13, h14, h15, h16, h17⟩ := id h
  rcases zP2_c (x1 := x1) with hz | ⟨k, hk, hz⟩
  · simp only [hz]; exact h
  · simp only [hz]
    refine ⟨⟨h1, h2, h3, h4, h5, h6, h7, h8⟩, h9, h10, h11, h12, h13, h14, h15, zkeep_put h2 hk h16 h13 h14, fun q hq => ?_⟩
    by_cases e : q = k
    · rw [e, pk_us]; exact Or.inr rfl
    · rw [pk_un e]; exact h17 q hq
theorem zrel_again {len n cn nx cr q5 r5 s5 : Nat} {od nv rd f sf yf kf pw mv md g bk ke : Nat → Int32} {x1 : Int32} (h : zREL len n cn nx cr q5 r5 s5 od nv rd f sf yf kf pw mv md g bk ke) : zREL len n (zPa 2 x1 (fun k => if kf k = 0 then cn else 0) cn) nx cr q5 r5 s5 od nv rd (zPa 2 x1 (fun k => if kf k = 0 then f else va_cpy yf f (k * 36) 0 36) f) sf yf kf pw mv md (zPa 2 x1 (fun k => if kf k = 0 then g else va_cpy ke g (36 * k) 0 36) g) bk ke := by
  obtain ⟨⟨h1, h2, h3, h4, h5, h6, h7, h8⟩, h9, h10, h11, h12, h13, h14, h15, h16, h17⟩ := id h
  rcases zP2_c (x1 := x1) with hz | ⟨k, hk, hz⟩
  · simp only [hz]; exact h
  · simp only [hz]
    by_cases q : kf k = 0
    · simp only [if_pos q]; exact h
    · simp only [if_neg q]
      obtain ⟨u1, u2⟩ := zkeep_get (f := f) (g := g) h2 hk q h16
      exact ⟨⟨h1, h2, Nat.zero_le _, h4, h5, h6, h7, h8⟩, h9, h10, h11, h12, u1, u2, fun t ht => absurd ht (Nat.not_lt_zero _), h16, h17⟩
theorem zans_keep {len n cn nx cr q5 r5 s5 : Nat} {od nv rd f sf yf kf pw mv md g bk ke : Nat → Int32} {x1 : Int32} (h : zREL len n cn nx cr q5 r5 s5 od nv rd f sf yf kf pw mv md g bk ke) : zPa 2 x1 (fun _ => f 35) (-1) = zPa 2 x1 (fun _ => g 35) (-1) := by
  obtain ⟨⟨h1, h2, h3, h4, h5, h6, h7, h8⟩, h9, h10, h11, h12, h13, h14, h15, h16, h17⟩ := id h
  rw [h13.2]
theorem zans_again {len n cn nx cr q5 r5 s5 : Nat} {od nv rd f sf yf kf pw mv md g bk ke : Nat → Int32} {x1 : Int32} (h : zREL len n cn nx cr q5 r5 s5 od nv rd f sf yf kf pw mv md g bk ke) : zPa 2 x1 (fun k => if kf k = 0 then -3 else va_cpy yf f (k * 36) 0 36 35) (-1) = zPa 2 x1 (fun k => if kf k = 0 then -3 else va_cpy ke g (36 * k) 0 36 35) (-1) := by
  obtain ⟨⟨h1, h2, h3, h4, h5, h6, h7, h8⟩, h9, h10, h11, h12, h13, h14, h15, h16, h17⟩ := id h
  rcases zP2_c (x1 := x1) with hz | ⟨k, hk, hz⟩
  · rw [hz, hz]
  · rw [hz, hz]
    by_cases q : kf k = 0
    · rw [if_pos q, if_pos q]
    · rw [if_neg q, if_neg q]; exact ((zkeep_get (f := f) (g := g) h2 hk q h16).1.2).symm
theorem zrel_realm {len n cn nx cr q5 r5 s5 : Nat} {od nv rd f sf yf kf pw mv md g bk ke : Nat → Int32} {n3 m3 n4 m4 cn3 ac4 : Nat} {m : Nat} {rt3 fr3 pr3 rt4 fr4 pr4 : Int32} {od3 nv3 rd3 f3 kf3 od4 nv4 rd4 g4 kf4 bf : Nat → Int32} (h : zREL len n cn nx cr q5 r5 s5 od nv rd f sf yf kf pw mv md g bk ke)
    (hc1 : ¬ zflt bf len = -9 → zmk n n3 m m3 (nI q5) rt3 (nI r5) fr3 (nI s5) pr3 od od3 nv nv3 rd rd3 f f3 cn cn3 kf kf3) (hc2 : zflt bf len = -9 → zgot bf len n3 m3 rt3 fr3 pr3 od3 nv3 rd3 f3 ∧ cn3 = 0 ∧ kf3 = zcl kf 2)
    (hm1 : ¬ zflt bf len = -9 → zmk n n4 m m4 (nI q5) rt4 (nI r5) fr4 (nI s5) pr4 od od4 mv nv4 md rd4 g g4 cn ac4 kf kf4) (hm2 : zflt bf len = -9 → zmn bf len n4 m4 rt4 fr4 pr4 od4 nv4 rd4 g4 ac4 kf4) :
    n4 = n3 ∧ m4 = m3 ∧ ac4 = cn3 ∧ (∀ j, j < 4 → od4 j = od3 j) ∧ (∀ j, j < 2 → kf4 j = kf3 j) ∧ ∃ q6 r6 s6 : Nat, rt3 = nI q6 ∧ fr3 = nI r6 ∧ pr3 = nI s6 ∧ rt4 = nI q6 ∧ fr4 = nI r6 ∧ pr4 = nI s6 ∧ zREL len n3 cn3 nx cr q6 r6 s6 od3 nv3 rd3 f3 sf yf kf3 pw nv4 rd4 g4 bk ke := by
  obtain ⟨⟨h1, h2, h3, h4, h5, h6, h7, h8⟩, h9, h10, h11, h12, h13, h14, h15, h16, h17⟩ := id h
  by_cases hz : zflt bf len = -9
  · obtain ⟨⟨⟨a1, a2, a3, a4, a5⟩, a6, a7, a8, a9⟩, a10, a11⟩ := hc2 hz
    obtain ⟨b1, b2, b3, b4, b5, b6, b7, b8, b9, b10, b11⟩ := hm2 hz
    obtain ⟨hI, hlw, h77⟩ := zflt_I hz h1
    obtain ⟨i1, i2, i3, i4, i5, i6, i7, i8⟩ := hI
    obtain ⟨w1, w2, w3, w4, w5⟩ := zlw_8 h77
    subst a1 a3 a4
    refine ⟨b1, by rw [b2, a2], by rw [b9, a10], fun j hj => by rw [b6 j hj, a9 j hj], fun j hj => ?_, zdg bf 1, zdg bf 2, zdg bf 3, a6, a7, a8, b3, b4, b5, ?_⟩
    · have e : kf3 j = 0 := by rw [a11]; unfold zcl; rw [if_pos hj]
      rw [e]
      rcases (show j = 0 ∨ j = 1 by omega) with rfl | rfl
      · exact b10
      · exact b11
    · refine ⟨⟨h1, i2, by omega, h4, h5, w2, w3, w4⟩, ⟨fun k => zdg bf (4 + k), fun k hk => a9 k hk, w5⟩, h10, fun p hp => (b7 p hp).2, fun p hp => by rw [(b7 p hp).1, a5 p hp], b8, i6, fun t ht => absurd ht (by omega), fun k hk hq => ?_, fun k hk => ?_⟩
      · exact absurd (by rw [a11]; unfold zcl; rw [if_pos hk] : kf3 k = 0) hq
      · exact Or.inl (by rw [a11]; unfold zcl; rw [if_pos hk])
  · obtain ⟨a1, a2, a3, a4, a5, a6, a7, a8, a9, a10, a11⟩ := hc1 hz
    obtain ⟨b1, b2, b3, b4, b5, b6, b7, b8, b9, b10, b11⟩ := hm1 hz
    subst a1 a2 a3 a4 a5 a6 a7 a8 a9 a10 a11 b1 b2 b3 b4 b5 b6 b7 b8 b9 b10 b11
    exact ⟨rfl, rfl, rfl, fun _ _ => rfl, fun _ _ => rfl, q5, r5, s5, rfl, rfl, rfl, rfl, rfl, rfl, h⟩
theorem zrel_0 : zREL 0 0 0 0 0 0 0 0 (zI1 4) zO zO zF0 zO zO zO zO zO zO zO zO zO := by
  refine ⟨⟨by decide, by decide, by decide, by decide, by decide, by decide, by decide, by decide⟩, ⟨fun k => k + 1, fun k hk => by unfold zI1; rw [if_pos hk], rfl⟩, fun i hi => absurd hi (Nat.not_lt_zero _), fun i hi => absurd hi (Nat.not_lt_zero _), fun i hi => absurd hi (Nat.not_lt_zero _), ⟨fun p hp => absurd hp (Nat.not_lt_zero _), rfl⟩, fun p hp => absurd hp (Nat.not_lt_zero _), fun t ht => absurd ht (Nat.not_lt_zero _), fun k hk hq => absurd rfl hq, fun k hk => Or.inl rfl⟩
