/-! The model's rows, as places: those from n on hold none. -/
def md_T (n : Nat) (O : Nat → Int32) : Nat → Int32 := fun p => if p < n then O p else -1
theorem md_lt {n p : Nat} {O : Nat → Int32} (h : p < n) : md_T n O p = O p := if_pos h
theorem md_ge {n p : Nat} {O : Nat → Int32} (h : n ≤ p) : md_T n O p = -1 := if_neg (Nat.not_lt.mpr h)
theorem md_ne {n p : Nat} {O : Nat → Int32} {t : Int32} (ht : t ≠ -1) (h : md_T n O p = t) : p < n ∧ O p = t := by
  rcases Nat.lt_or_ge p n with q | q
  · exact ⟨q, by rw [← h, md_lt q]⟩
  · rw [md_ge q] at h; exact absurd h.symm ht
theorem md_find {n : Nat} {O D : Nat → Int32} {t k r : Int32} (hn : n ≤ 24) (ht : t ≠ -1) (h : (r = -1 ∧ ∀ q, q < n → ¬ (O q = t ∧ D (4 * q) = k)) ∨ ∃ q, q < n ∧ r = nI q ∧ O q = t ∧ D (4 * q) = k) : mt_find (md_T n O) D t k r := by
  rcases h with ⟨h1, h2⟩ | ⟨q, h1, h2, h3, h4⟩
  · exact Or.inl ⟨h1, fun p hp z => by obtain ⟨a, b⟩ := md_ne ht z.1; exact h2 p a ⟨b, z.2⟩⟩
  · exact Or.inr ⟨q, by omega, h2, by rw [md_lt h1]; exact h3, h4⟩
theorem md_ref {n p q : Nat} {O D : Nat → Int32} {ch pa : Int32} {co : Nat} (hp : p < n) (hq : q < n) : mt_ref (md_T n O) D ch co pa p q ↔ mt_ref O D ch co pa p q := by
  unfold mt_ref
  rw [md_lt hp, md_lt hq]
theorem md_ref_lt {n p q : Nat} {O D : Nat → Int32} {ch pa : Int32} {co : Nat} (hc : ch ≠ -1) (hpa : pa ≠ -1) (h : mt_ref (md_T n O) D ch co pa p q) : p < n ∧ q < n := ⟨(md_ne hc h.1).1, (md_ne hpa h.2.2.1).1⟩
def md_rule (w n : Nat) : Prop := w ≤ n
/-- right rules -/
def md_RP (nL : Nat) (lch : Nat → Int32) (lco : Nat → Nat) (lpa lwy : Nat → Int32) (nS : Nat) (stb : Nat → Int32) (sco : Nat → Nat) (nC : Nat) (ctb : Nat → Int32) (cln cw ccol : Nat → Nat) : Prop :=
  (∀ j, j < nL → lch j ≠ -1 ∧ lpa j ≠ -1 ∧ (0 < lco j ∧ lco j < 4) ∧ (lwy j = 0 ∨ lwy j = nI 1 ∨ lwy j = nI 2)) ∧ (∀ j, j < nS → stb j ≠ -1 ∧ (0 < sco j ∧ sco j < 4)) ∧
  ∀ j, j < nC → ctb j ≠ -1 ∧ mt_right (fun i => cw (10 * j + i)) (ccol j) (cln j) ∧ ccol j ≤ 4 ∧ (∀ i, i < cln j → mt_wok (cw (10 * j + i))) ∧ cln j ≤ 10
def md_sw (y : Nat) (W : Int32 → Prop) (r : Int32) : Prop := (0 < y ∧ r = nI y) ∨ (y = 0 ∧ W r)
/-- a link that keeps, as the reason against the statement -/
def md_wy (kp : Int32) (y : Nat) : Prop := (kp = -1 ∧ y = 0) ∨ ∃ i, i < 6 ∧ kp = nI i ∧ y = 100 + i
theorem md_wy.st {kp : Int32} {y : Nat} {W : Int32 → Prop} {r : Int32} (h : md_wy kp y) : md_sw y W r ↔ mt_st kp W r := by
  rcases h with ⟨h1, h2⟩ | ⟨i, h0, h1, h2⟩
  · subst h1; subst h2
    constructor
    · rintro (⟨h, -⟩ | ⟨-, h⟩)
      · exact absurd h (Nat.lt_irrefl _)
      · exact Or.inl ⟨rfl, h⟩
    · rintro (⟨-, h⟩ | ⟨i, hi, h, -⟩)
      · exact Or.inr ⟨rfl, h⟩
      · exact absurd h.symm (kl_nm1 (by omega))
  · subst h1; subst h2
    constructor
    · rintro (⟨-, h⟩ | ⟨h, -⟩)
      · exact Or.inr ⟨i, h0, rfl, h⟩
      · omega
    · rintro (⟨h, -⟩ | ⟨i2, hi2, h, h3⟩)
      · exact absurd h (kl_nm1 (by omega))
      · have : i = i2 := (nI_eq (by omega) (by omega)).mp h
        subst this
        exact Or.inl ⟨by omega, h3⟩
theorem md_wy.le {kp : Int32} {y : Nat} (h : md_wy kp y) : y < 2 ^ 20 := by
  rcases h with ⟨-, h⟩ | ⟨i, h0, -, h⟩ <;> omega
theorem md_gc_le {g : Nat → Int32} : mt_gc 24 g ≤ 24 := mt_ct_le _ _
theorem md_rd_le {T C : Nat → Int32} {nL : Nat} {lch : Nat → Int32} {lco : Nat → Nat} {lpa lwy : Nat → Int32} {rd mm : Nat} {g : Nat → Int32} (h : mt_rd T C nL lch lco lpa lwy rd mm g) (hm : mm ≠ 0) : rd ≤ 24 := by
  rcases h with ⟨h, -⟩ | ⟨-, h⟩
  · exact absurd h hm
  · have := md_gc_le (g := g); omega
/-- one pass over links, rows and rows again -/
def md_s3 (T C : Nat → Int32) (lch : Nat → Int32) (lco : Nat → Nat) (lpa lwy : Nat → Int32) (D : Nat → Nat → Nat → Prop) (gg g : Nat → Int32) (m : Nat) : Prop := (m = 0 ∧ g = gg ∧ ∀ l p q, D l p q → lwy l = nI 1 → gg p = 0 → gg q ≠ 0 → ¬ mt_ref T C (lch l) (lco l) (lpa l) p q) ∨ (m = 1 ∧ mt_gc 24 gg < mt_gc 24 g)
section MDS
variable {T C : Nat → Int32} {nL : Nat} {lch : Nat → Int32} {lco : Nat → Nat} {lpa lwy : Nat → Int32} {D D2 : Nat → Nat → Nat → Prop} {gg g : Nat → Int32} {m rd mm n : Nat}
theorem md_s3.rf (h : ∀ l p q, ¬ D l p q) : md_s3 T C lch lco lpa lwy D gg gg 0 := Or.inl ⟨rfl, rfl, fun l p q z => absurd z (h l p q)⟩
theorem md_s3.same (h : md_s3 T C lch lco lpa lwy D gg g m) (hD : ∀ l p q, D2 l p q → D l p q) : md_s3 T C lch lco lpa lwy D2 gg g m := by
  rcases h with ⟨h1, h2, h3⟩ | h
  · exact Or.inl ⟨h1, h2, fun l p q z => h3 l p q (hD l p q z)⟩
  · exact Or.inr h
theorem md_s3.skip (h : md_s3 T C lch lco lpa lwy D gg g m) {l0 x y : Nat} (hD : ∀ l p q, D2 l p q → D l p q ∨ (l = l0 ∧ p = x ∧ q = y)) (hc : lwy l0 = nI 1 → g x = 0 → g y ≠ 0 → ¬ mt_ref T C (lch l0) (lco l0) (lpa l0) x y) : md_s3 T C lch lco lpa lwy D2 gg g m := by
  rcases h with ⟨h1, h2, h3⟩ | h
  · refine Or.inl ⟨h1, h2, fun l p q z => ?_⟩
    rcases hD l p q z with z | ⟨rfl, rfl, rfl⟩
    · exact h3 l p q z
    · rw [← h2]; exact hc
  · exact Or.inr h
theorem md_s3.set (h : md_s3 T C lch lco lpa lwy D gg g m) {x : Nat} (hx : x < 24) (h0 : g x = 0) : md_s3 T C lch lco lpa lwy D2 gg (upd g x (nI 1)) 1 := by
  refine Or.inr ⟨rfl, ?_⟩
  rw [mt_gc_set hx h0 (by decide)]
  rcases h with ⟨-, h2, -⟩ | ⟨-, h2⟩
  · rw [h2]; omega
  · omega
theorem md_s3.nx {O : Nat → Int32} (h0 : mt_rd (md_T n O) C nL lch lco lpa lwy rd mm gg) (hm : mm ≠ 0) (hr : ∀ j, j < nL → lch j ≠ -1 ∧ lpa j ≠ -1) (h : md_s3 (md_T n O) C lch lco lpa lwy (fun l p q => l < nL ∧ p < n ∧ q < n) gg g m) : mt_rd (md_T n O) C nL lch lco lpa lwy (rd + 1) m g := by
  rcases h0 with ⟨h1, -⟩ | ⟨-, h1⟩
  · exact absurd h1 hm
  · rcases h with ⟨q1, q2, q3⟩ | ⟨q1, q2⟩
    · refine Or.inl ⟨q1, fun l p hp hl hw hz => ?_⟩
      rintro ⟨q, hq, h4, h5⟩
      obtain ⟨a, b⟩ := md_ref_lt (hr l hl).1 (hr l hl).2 h4
      rw [q2] at hz h5
      exact q3 l p q ⟨hl, a, b⟩ hw hz h5 h4
    · exact Or.inr ⟨q1, by omega⟩
theorem md_s3.bool (h : md_s3 T C lch lco lpa lwy D gg g m) : m < 2 := by
  rcases h with ⟨h, -⟩ | ⟨h, -⟩ <;> omega
end MDS
/-- one of the rows below x that go was referred to -/
def md_lx (T C gg : Nat → Int32) (ch : Int32) (co : Nat) (pa : Int32) (p x : Nat) : Prop := ∃ q, q < x ∧ mt_ref T C ch co pa p q ∧ gg q ≠ 0
theorem md_lx_0 {T C gg : Nat → Int32} {ch : Int32} {co : Nat} {pa : Int32} {p : Nat} : ¬ md_lx T C gg ch co pa p 0 := fun ⟨_, h, _⟩ => absurd h (Nat.not_lt_zero _)
theorem md_lx_n {T C gg : Nat → Int32} {ch : Int32} {co : Nat} {pa : Int32} {p x : Nat} (h : ¬ (mt_ref T C ch co pa p x ∧ gg x ≠ 0)) : md_lx T C gg ch co pa p (x + 1) ↔ md_lx T C gg ch co pa p x := by
  constructor
  · rintro ⟨q, h1, h2⟩
    by_cases e : q = x
    · subst e; exact absurd h2 h
    · exact ⟨q, by omega, h2⟩
  · rintro ⟨q, h1, h2⟩
    exact ⟨q, by omega, h2⟩
theorem md_lx_y {T C gg : Nat → Int32} {ch : Int32} {co : Nat} {pa : Int32} {p x : Nat} (h : mt_ref T C ch co pa p x ∧ gg x ≠ 0) : md_lx T C gg ch co pa p (x + 1) := ⟨x, by omega, h⟩
theorem md_lx_l {n : Nat} {O C gg : Nat → Int32} {ch : Int32} {co : Nat} {pa : Int32} {p : Nat} (hn : n ≤ 24) (hpa : pa ≠ -1) : md_lx (md_T n O) C gg ch co pa p n ↔ mt_lost (md_T n O) C gg ch co pa p := by
  constructor
  · rintro ⟨q, h1, h2⟩
    exact ⟨q, by omega, h2⟩
  · rintro ⟨q, h1, h2⟩
    exact ⟨q, (md_ne hpa h2.1.2.2.1).1, h2⟩
theorem md_upd_self (g : Nat → Int32) (i : Nat) : upd g i (g i) = g := by
  funext j
  by_cases h : j = i
  · rw [h, pk_us]
  · rw [pk_un h]
/-- done: link k up to row x (behind the links above), with row x itself when P is so -/
def md_D (k nL x : Nat) (P : Prop) : Nat → Nat → Prop := fun l p => (k < l ∧ l < nL) ∨ (l = k ∧ p < x) ∨ (l = k ∧ p = x ∧ P)
theorem md_D_in {k nL x n : Nat} (hx : x < n) (hk : k < nL) {P : Prop} (hP : P) : ∀ l p, p < n → (md_D k nL x P l p ↔ ((k < l ∧ l < nL) ∨ (l = k ∧ p < x + 1))) := by
  intro l p hp
  unfold md_D
  constructor
  · rintro (h | h | ⟨h, h2, -⟩)
    · exact Or.inl h
    · exact Or.inr ⟨h.1, by omega⟩
    · exact Or.inr ⟨h, by omega⟩
  · rintro (h | ⟨h, h2⟩)
    · exact Or.inl h
    · by_cases e : p = x
      · exact Or.inr (Or.inr ⟨h, e, hP⟩)
      · exact Or.inr (Or.inl ⟨h, by omega⟩)
theorem md_D_no {k nL x : Nat} {P : Prop} (hP : ¬ P) : ∀ l p, (md_D k nL x P l p ↔ ((k < l ∧ l < nL) ∨ (l = k ∧ p < x))) := by
  intro l p
  unfold md_D
  constructor
  · rintro (h | h | ⟨-, -, h⟩)
    · exact Or.inl h
    · exact Or.inr h
    · exact absurd h hP
  · rintro (h | h)
    · exact Or.inl h
    · exact Or.inr (Or.inl h)
theorem md_D_if {k nL x : Nat} {P P2 : Prop} (h : P ↔ P2) : ∀ l p, (md_D k nL x P l p ↔ md_D k nL x P2 l p) := by
  intro l p
  unfold md_D
  rw [h]
theorem md_D_add {k nL x : Nat} {P P2 : Prop} (h : P2) : ∀ l p, (md_D k nL x P2 l p ↔ md_D k nL x P l p ∨ (l = k ∧ p = x)) := by
  intro l p
  unfold md_D
  constructor
  · rintro (h | h | ⟨h, h2, -⟩)
    · exact Or.inl (Or.inl h)
    · exact Or.inl (Or.inr (Or.inl h))
    · exact Or.inr ⟨h, h2⟩
  · rintro ((h | h | ⟨h1, h2, -⟩) | ⟨h1, h2⟩)
    · exact Or.inl h
    · exact Or.inr (Or.inl h)
    · exact Or.inr (Or.inr ⟨h1, h2, h⟩)
    · exact Or.inr (Or.inr ⟨h1, h2, h⟩)
/-- the words of the k-th check, as they are laid down -/
def md_cw (cw wt : Nat → Nat) (b k : Nat) : Nat → Nat := fun j => if b ≤ j ∧ j < b + k then wt (j - b) else cw j
theorem md_cw_0 {cw wt : Nat → Nat} {b : Nat} : md_cw cw wt b 0 = cw := by
  funext j
  exact if_neg (by omega)
theorem md_cw_s {cw wt : Nat → Nat} {b k : Nat} : kl_nup (md_cw cw wt b k) (b + k) (wt k) = md_cw cw wt b (k + 1) := by
  funext j
  by_cases h : j = b + k
  · subst h
    rw [kl_nup_s]
    unfold md_cw
    rw [if_pos (by omega), Nat.add_sub_cancel_left]
  · rw [kl_nup_n h]
    unfold md_cw
    by_cases h2 : b ≤ j ∧ j < b + k
    · rw [if_pos h2, if_pos (by omega)]
    · rw [if_neg h2, if_neg (by omega)]
theorem md_cw_in {cw wt : Nat → Nat} {b k i : Nat} (h : i < k) : md_cw cw wt b k (b + i) = wt i := by
  unfold md_cw
  rw [if_pos (by omega), Nat.add_sub_cancel_left]
theorem md_cw_out {cw wt : Nat → Nat} {b k j : Nat} (h : j < b) : md_cw cw wt b k j = cw j := if_neg (by omega)
theorem md_way {w : Int32} (h1 : ¬ w < 0) (h2 : w ≤ nI 2) : w = 0 ∨ w = nI 1 ∨ w = nI 2 := by
  obtain ⟨k, hk, rfl⟩ := nI_of h1
  have h3 := (nI_leI hk (by omega)).mp h2
  rcases (show k = 0 ∨ k = 1 ∨ k = 2 by omega) with rfl | rfl | rfl
  · exact Or.inl nI_0
  · exact Or.inr (Or.inl rfl)
  · exact Or.inr (Or.inr rfl)
theorem md_way_n {w : Int32} (h : w < 0 ∨ ¬ w ≤ nI 2) : ¬ (w = 0 ∨ w = nI 1 ∨ w = nI 2) := by
  rintro (rfl | rfl | rfl) <;> rcases h with h | h <;> revert h <;> decide
/-- those that stay, moved together -/
noncomputable def md_st (g : Nat → Int32) (n : Nat) : Nat := mt_ct (fun q => g q = 0) n
theorem md_st_y {g : Nat → Int32} {n : Nat} (h : g n = 0) : md_st g (n + 1) = md_st g n + 1 := mt_ct_y (P := fun q => g q = 0) h
theorem md_st_n {g : Nat → Int32} {n : Nat} (h : g n ≠ 0) : md_st g (n + 1) = md_st g n := mt_ct_n (P := fun q => g q = 0) h
theorem md_st_le {g : Nat → Int32} {n : Nat} : md_st g n ≤ n := mt_ct_le _ _
theorem md_st_mono {g : Nat → Int32} {a : Nat} : ∀ {b : Nat}, a ≤ b → md_st g a ≤ md_st g b
  | 0, h => by
    obtain rfl : a = 0 := by omega
    exact Nat.le_refl _
  | b + 1, h => by
    by_cases e : a = b + 1
    · rw [e]; exact Nat.le_refl _
    · have ih := md_st_mono (g := g) (show a ≤ b by omega)
      by_cases z : g b = 0
      · rw [md_st_y z]; omega
      · rw [md_st_n z]; exact ih
theorem md_st_lt {g : Nat → Int32} {a b : Nat} (h : a < b) (ha : g a = 0) : md_st g a < md_st g b := by
  have h1 := md_st_mono (g := g) (show a + 1 ≤ b from h)
  rw [md_st_y ha] at h1
  omega
/-- rows below r that stay have come to their new places; from r on all is as it was -/
def md_cp (g : Nat → Int32) (O D : Nat → Int32) (r : Nat) (O2 D2 : Nat → Int32) : Prop := (∀ q, q < r → g q = 0 → O2 (md_st g q) = O q ∧ ∀ c, c < 4 → D2 (4 * md_st g q + c) = D (4 * q + c)) ∧ (∀ q, r ≤ q → O2 q = O q) ∧ ∀ k, 4 * r ≤ k → D2 k = D k
section MDC
variable {g O D O2 D2 D4 : Nat → Int32} {r : Nat}
theorem md_cp.rf : md_cp g O D 0 O D := ⟨fun q h => absurd h (Nat.not_lt_zero _), fun _ _ => rfl, fun _ _ => rfl⟩
theorem md_cp.no (h : md_cp g O D r O2 D2) (hr : g r ≠ 0) : md_cp g O D (r + 1) O2 D2 := ⟨fun q hq hz => h.1 q (by
  by_cases e : q = r
  · subst e; exact absurd hz hr
  · omega) hz, fun q hq => h.2.1 q (by omega), fun k hk => h.2.2 k (by omega)⟩
/-- while the cells of row r move: c of them have -/
def md_cq (D D2 : Nat → Int32) (a r c : Nat) (D4 : Nat → Int32) : Prop := (∀ k, k < c → D4 (4 * a + k) = D (4 * r + k)) ∧ ∀ k, k < 4 * a ∨ 4 * a + c ≤ k → D4 k = D2 k
theorem md_cq.rf {a : Nat} : md_cq D D2 a r 0 D2 := ⟨fun k h => absurd h (Nat.not_lt_zero _), fun _ _ => rfl⟩
theorem md_cq.yes {a c : Nat} (h : md_cq D D2 a r c D4) (ha : a ≤ r) (hc : c < 4) (hD : ∀ k, 4 * r ≤ k → D2 k = D k) : md_cq D D2 a r (c + 1) (upd D4 (4 * a + c) (D4 (4 * r + c))) := by
  refine ⟨fun k hk => ?_, fun k hk => ?_⟩
  · by_cases e : k = c
    · subst e
      rw [pk_us, h.2 (4 * r + k) (by omega), hD _ (by omega)]
    · rw [pk_un (by omega)]
      exact h.1 k (by omega)
  · rw [pk_un (by omega)]
    exact h.2 k (by omega)
theorem md_cp.yes (h : md_cp g O D r O2 D2) (hr : g r = 0) (h4 : md_cq D D2 (md_st g r) r 4 D4) : md_cp g O D (r + 1) (upd O2 (md_st g r) (O2 r)) D4 := by
  have hle := md_st_le (g := g) (n := r)
  refine ⟨fun q hq hz => ?_, fun q hq => ?_, fun k hk => ?_⟩
  · by_cases e : q = r
    · subst e
      refine ⟨by rw [pk_us]; exact h.2.1 q (Nat.le_refl _), fun c hc => h4.1 c hc⟩
    · have hlt := md_st_lt (g := g) (show q < r by omega) hz
      obtain ⟨h1, h2⟩ := h.1 q (by omega) hz
      refine ⟨by rw [pk_un (by omega)]; exact h1, fun c hc => ?_⟩
      rw [h4.2 _ (by omega)]
      exact h2 c hc
  · rw [pk_un (by omega)]
    exact h.2.1 q (by omega)
  · rw [h4.2 k (by omega)]
    exact h.2.2 k (by omega)
end MDC
theorem md_ev_cong {wd wd2 : Nat → Nat} {row : Nat → Int32} {n : Nat} (h : ∀ i, i < n → wd i = wd2 i) : mt_ev wd n row = mt_ev wd2 n row := by
  have key : ∀ k, k ≤ n → mt_pile wd row k = mt_pile wd2 row k ∧ mt_hh wd k = mt_hh wd2 k := by
    intro k
    induction k with
    | zero => intro _; exact ⟨rfl, rfl⟩
    | succ k ih =>
      intro hk
      obtain ⟨h1, h2⟩ := ih (by omega)
      have h3 := h k (by omega)
      exact ⟨by rw [mt_pile, mt_pile, h1, h2, h3], by rw [mt_hh, mt_hh, h2, h3]⟩
  unfold mt_ev
  rw [(key n (Nat.le_refl _)).1]
theorem md_h_cong {wd wd2 : Nat → Nat} {cols : Nat} : ∀ {n : Nat}, (∀ i, i < n → wd i = wd2 i) → mt_h wd cols n = mt_h wd2 cols n
  | 0, _ => rfl
  | n + 1, h => by rw [mt_h, mt_h, md_h_cong (n := n) (fun i hi => h i (by omega)), h n (by omega)]
theorem md_cbrk_cong {T C : Nat → Int32} {tb : Int32} {wd wd2 : Nat → Nat} {n : Nat} (h : ∀ i, i < n → wd i = wd2 i) : mt_cbrk T C tb wd n ↔ mt_cbrk T C tb wd2 n := by
  unfold mt_cbrk
  constructor
  · rintro ⟨p, h1, h2, h3⟩
    exact ⟨p, h1, h2, by rw [← md_ev_cong h]; exact h3⟩
  · rintro ⟨p, h1, h2, h3⟩
    exact ⟨p, h1, h2, by rw [md_ev_cong h]; exact h3⟩
def md_ins (D : Nat → Int32) (n k : Nat) (a b c d : Int32) : Nat → Int32 := upd (upd (upd (upd D (4 * n) a) (4 * n + 1) b) (4 * n + 2) (if 2 < k then c else nI 0)) (4 * n + 3) (if 3 < k then d else nI 0)
/-- what lies where it lies only for a while -/
def md_jk (G : kl_G) (w : kl_M) : Prop := ∃ oO oD gn pl : Nat → Int32, w 30 = some (kl_aI G 24 oO) ∧ w 31 = some (kl_aI G 96 oD) ∧ w 32 = some (kl_aZ G 24 gn) ∧ w 43 = some (kl_aI G 12 pl)
