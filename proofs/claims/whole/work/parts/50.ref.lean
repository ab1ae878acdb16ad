/-! Two stores of the same rows: f leads each row's place in the one to its place in the other. -/
def mr_R (nT : Nat) (cn : Nat → Nat) (T C T2 C2 : Nat → Int32) (f : Nat → Nat) : Prop :=
  (∀ p, p < 24 → T p ≠ -1 → f p < 24 ∧ T2 (f p) = T p ∧ ∀ t c, t < nT → T p = nI t → c < cn t → C2 (4 * f p + c) = C (4 * p + c)) ∧
  (∀ p q, p < 24 → q < 24 → T p ≠ -1 → T q ≠ -1 → f p = f q → p = q) ∧
  ∀ q, q < 24 → T2 q ≠ -1 → ∃ p, p < 24 ∧ T p ≠ -1 ∧ f p = q
def mr_E (nT : Nat) (cn : Nat → Nat) (T C T2 C2 : Nat → Int32) : Prop := ∃ f, mr_R nT cn T C T2 C2 f
/-- the rows that are there are rows of tables that are there -/
def mr_tb (nT : Nat) (T : Nat → Int32) : Prop := ∀ p, p < 24 → T p ≠ -1 → ∃ t, t < nT ∧ T p = nI t
section MR
variable {nT : Nat} {cn : Nat → Nat} {T C T2 C2 : Nat → Int32} {f : Nat → Nat}
theorem mr_R.symm (h : mr_R nT cn T C T2 C2 f) : ∃ g, mr_R nT cn T2 C2 T C g ∧ (∀ p, p < 24 → T p ≠ -1 → g (f p) = p) ∧ ∀ q, q < 24 → T2 q ≠ -1 → f (g q) = q := by
  have key : ∀ q : Nat, ∃ p : Nat, q < 24 → T2 q ≠ -1 → p < 24 ∧ T p ≠ -1 ∧ f p = q := fun q => by
    by_cases hq : q < 24 ∧ T2 q ≠ -1
    · obtain ⟨p, h1⟩ := h.2.2 q hq.1 hq.2
      exact ⟨p, fun _ _ => h1⟩
    · exact ⟨0, fun a b => absurd ⟨a, b⟩ hq⟩
  obtain ⟨g, hg⟩ := Classical.axiomOfChoice key
  have inv : ∀ p, p < 24 → T p ≠ -1 → g (f p) = p := fun p hp hT => by
    obtain ⟨a, b, -⟩ := h.1 p hp hT
    obtain ⟨d, e, k⟩ := hg (f p) a (by rw [b]; exact hT)
    exact h.2.1 _ _ d hp e hT k
  refine ⟨g, ⟨fun q hq hT => ?_, fun q q2 hq hq2 hT hT2 e => ?_, fun p hp hT => ?_⟩, inv, fun q hq hT => (hg q hq hT).2.2⟩
  · obtain ⟨a, b, e⟩ := hg q hq hT
    obtain ⟨-, h2, h3⟩ := h.1 _ a b
    rw [e] at h2 h3
    refine ⟨a, h2.symm, fun t c ht h4 hc => ?_⟩
    exact (h3 t c ht (by rw [← h2]; exact h4) hc).symm
  · obtain ⟨-, -, e1⟩ := hg q hq hT
    obtain ⟨-, -, e2⟩ := hg q2 hq2 hT2
    rw [← e1, ← e2, e]
  · obtain ⟨a, b, -⟩ := h.1 p hp hT
    exact ⟨f p, a, by rw [b]; exact hT, inv p hp hT⟩
theorem mr_E.symm (h : mr_E nT cn T C T2 C2) : mr_E nT cn T2 C2 T C := by
  obtain ⟨f, hf⟩ := h
  obtain ⟨g, hg, -⟩ := hf.symm
  exact ⟨g, hg⟩
theorem mr_nt {t : Nat} (hn : nT ≤ 4) (ht : t < nT) : nI t ≠ -1 := kl_nm1 (by omega)
theorem mr_R.cell (h : mr_R nT cn T C T2 C2 f) (hn : nT ≤ 4) {p t c : Nat} (hp : p < 24) (ht : t < nT) (e : T p = nI t) (hc : c < cn t) : C2 (4 * f p + c) = C (4 * p + c) := (h.1 p hp (by rw [e]; exact mr_nt hn ht)).2.2 t c ht e hc
theorem mr_R.key (h : mr_R nT cn T C T2 C2 f) (hn : nT ≤ 4) (h0 : ∀ t, t < nT → 0 < cn t) {p t : Nat} (hp : p < 24) (ht : t < nT) (e : T p = nI t) : C2 (4 * f p) = C (4 * p) := h.cell hn (c := 0) hp ht e (h0 t ht)
theorem mr_R.at (h : mr_R nT cn T C T2 C2 f) (hn : nT ≤ 4) {p t : Nat} (hp : p < 24) (ht : t < nT) (e : T p = nI t) : f p < 24 ∧ T2 (f p) = nI t := by
  obtain ⟨a, b, -⟩ := h.1 p hp (by rw [e]; exact mr_nt hn ht)
  exact ⟨a, b.trans e⟩
/-- a row of the other store comes from one here -/
theorem mr_R.from (h : mr_R nT cn T C T2 C2 f) (hn : nT ≤ 4) {q t : Nat} (hq : q < 24) (ht : t < nT) (e : T2 q = nI t) : ∃ p, p < 24 ∧ T p = nI t ∧ f p = q := by
  obtain ⟨p, a, b, d⟩ := h.2.2 q hq (by rw [e]; exact mr_nt hn ht)
  exact ⟨p, a, by rw [← (h.1 p a b).2.1, d]; exact e, d⟩
theorem mr_R.inj (h : mr_R nT cn T C T2 C2 f) (hn : nT ≤ 4) {p q t t2 : Nat} (hp : p < 24) (hq : q < 24) (ht : t < nT) (ht2 : t2 < nT) (e : T p = nI t) (e2 : T q = nI t2) (hf : f p = f q) : p = q := h.2.1 p q hp hq (by rw [e]; exact mr_nt hn ht) (by rw [e2]; exact mr_nt hn ht2) hf
theorem mr_inj {P : Nat → Prop} {f : Nat → Nat} {m : Nat} : ∀ {n : Nat} {P2 : Nat → Prop}, (∀ p, p < n → P p → f p < m ∧ P2 (f p)) → (∀ p q, p < n → q < n → P p → P q → f p = f q → p = q) → mt_ct P n ≤ mt_ct P2 m
  | 0, _, _, _ => Nat.zero_le _
  | n + 1, P2, h1, h2 => by
    by_cases hP : P n
    · have ih := mr_inj (P := P) (f := f) (m := m) (n := n) (P2 := fun q => P2 q ∧ q ≠ f n) (fun p hp z => by
        obtain ⟨a, b⟩ := h1 p (by omega) z
        exact ⟨a, b, fun e => by have := h2 p n (by omega) (by omega) z hP e; omega⟩) (fun p q hp hq => h2 p q (by omega) (by omega))
      obtain ⟨a, b⟩ := h1 n (by omega) hP
      have e := mt_ct_add (P := fun q => P2 q ∧ q ≠ f n) (P2 := P2) (x := f n) (fun z => z.2 rfl) b (fun k hk => ⟨fun z => z.1, fun z => ⟨z, hk⟩⟩) a
      rw [mt_ct_y hP]
      omega
    · rw [mt_ct_n hP]
      exact mr_inj (fun p hp => h1 p (by omega)) (fun p q hp hq => h2 p q (by omega) (by omega))
theorem mr_ct (h : mr_R nT cn T C T2 C2 f) {P P2 : Nat → Prop} (h1 : ∀ p, p < 24 → P p → T p ≠ -1) (h2 : ∀ q, q < 24 → P2 q → T2 q ≠ -1) (hP : ∀ p, p < 24 → T p ≠ -1 → (P p ↔ P2 (f p))) : mt_ct P 24 = mt_ct P2 24 := by
  obtain ⟨g, hg, inv, inv2⟩ := h.symm
  refine Nat.le_antisymm (mr_inj (f := f) (fun p hp z => ⟨(h.1 p hp (h1 p hp z)).1, (hP p hp (h1 p hp z)).mp z⟩) (fun p q hp hq z1 z2 e => h.2.1 p q hp hq (h1 p hp z1) (h1 q hq z2) e))
    (mr_inj (f := g) (fun q hq z => ?_) (fun p q hp hq z1 z2 e => hg.2.1 p q hp hq (h2 p hp z1) (h2 q hq z2) e))
  obtain ⟨a, b, -⟩ := hg.1 q hq (h2 q hq z)
  have hT : T (g q) ≠ -1 := by rw [b]; exact h2 q hq z
  refine ⟨a, (hP _ a hT).mpr ?_⟩
  rw [inv2 q hq (h2 q hq z)]
  exact z
theorem mr_tw2 {t : Int32} {c : Nat} : mt_twin T C t c ↔ ∃ p q, p < 24 ∧ q < 24 ∧ p ≠ q ∧ T p = t ∧ T q = t ∧ C (4 * p + c) ≠ 0 ∧ C (4 * q + c) = C (4 * p + c) := by
  constructor
  · rintro ⟨p, h1, h2, h3, q, h4, h5, h6⟩
    exact ⟨p, q, h1, by omega, by omega, h2, by rw [h5]; exact h2, h3, h6⟩
  · rintro ⟨p, q, h1, h2, h3, h4, h5, h6, h7⟩
    rcases Nat.lt_or_gt_of_ne h3 with h | h
    · exact ⟨q, h2, h5, by rw [h7]; exact h6, p, h, by rw [h4, h5], h7.symm⟩
    · exact ⟨p, h1, h4, h6, q, h, by rw [h4, h5], h7⟩
theorem mr_twin1 (h : mr_E nT cn T C T2 C2) (hn : nT ≤ 4) {t c : Nat} (ht : t < nT) (hc : c < cn t) (z : mt_twin T C (nI t) c) : mt_twin T2 C2 (nI t) c := by
  obtain ⟨f, hf⟩ := h
  obtain ⟨p, q, h1, h2, h3, h4, h5, h6, h7⟩ := mr_tw2.mp z
  obtain ⟨a1, a2⟩ := hf.at hn h1 ht h4
  obtain ⟨b1, b2⟩ := hf.at hn h2 ht h5
  refine mr_tw2.mpr ⟨f p, f q, a1, b1, fun e => h3 (hf.inj hn h1 h2 ht ht h4 h5 e), a2, b2, ?_, ?_⟩
  · rw [hf.cell hn h1 ht h4 hc]; exact h6
  · rw [hf.cell hn h1 ht h4 hc, hf.cell hn h2 ht h5 hc]; exact h7
theorem mr_twin (h : mr_E nT cn T C T2 C2) (hn : nT ≤ 4) {t c : Nat} (ht : t < nT) (hc : c < cn t) : mt_twin T C (nI t) c ↔ mt_twin T2 C2 (nI t) c := ⟨mr_twin1 h hn ht hc, mr_twin1 h.symm hn ht hc⟩
theorem mr_ref1 (hf : mr_R nT cn T C T2 C2 f) (hn : nT ≤ 4) (h0 : ∀ t, t < nT → 0 < cn t) {a b co p q : Nat} (ha : a < nT) (hb : b < nT) (hc : co < cn a) (hp : p < 24) (hq : q < 24) (z : mt_ref T C (nI a) co (nI b) p q) : mt_ref T2 C2 (nI a) co (nI b) (f p) (f q) := by
  obtain ⟨h1, h2, h3, h4⟩ := z
  refine ⟨(hf.at hn hp ha h1).2, ?_, (hf.at hn hq hb h3).2, ?_⟩
  · rw [hf.cell hn hp ha h1 hc]; exact h2
  · rw [hf.cell hn hp ha h1 hc, hf.key hn h0 hq hb h3]; exact h4
theorem mr_ref2 (hf : mr_R nT cn T C T2 C2 f) (hn : nT ≤ 4) (h0 : ∀ t, t < nT → 0 < cn t) {a b co p q : Nat} (ha : a < nT) (hb : b < nT) (hc : co < cn a) (hp : p < 24) (hq : q < 24) (hTp : T p ≠ -1) (hTq : T q ≠ -1) (z : mt_ref T2 C2 (nI a) co (nI b) (f p) (f q)) : mt_ref T C (nI a) co (nI b) p q := by
  obtain ⟨h1, h2, h3, h4⟩ := z
  have e1 : T p = nI a := by rw [← (hf.1 p hp hTp).2.1]; exact h1
  have e2 : T q = nI b := by rw [← (hf.1 q hq hTq).2.1]; exact h3
  rw [hf.cell hn hp ha e1 hc] at h2 h4
  rw [hf.key hn h0 hq hb e2] at h4
  exact ⟨e1, h2, e2, h4⟩
theorem mr_lbrk1 (h : mr_E nT cn T C T2 C2) (hn : nT ≤ 4) (h0 : ∀ t, t < nT → 0 < cn t) {a b co : Nat} (ha : a < nT) (hb : b < nT) (hc : co < cn a) (z : mt_lbrk T C (nI a) co (nI b)) : mt_lbrk T2 C2 (nI a) co (nI b) := by
  obtain ⟨f, hf⟩ := h
  obtain ⟨p, hp, ⟨h1, h2⟩, h3⟩ := z
  obtain ⟨a1, a2⟩ := hf.at hn hp ha h1
  refine ⟨f p, a1, ⟨a2, by rw [hf.cell hn hp ha h1 hc]; exact h2⟩, fun q2 hq2 z => ?_⟩
  obtain ⟨q, hq, e1, e2⟩ := hf.from hn hq2 hb z.2.2.1
  refine h3 q hq (mr_ref2 hf hn h0 ha hb hc hp hq (by rw [h1]; exact mr_nt hn ha) (by rw [e1]; exact mr_nt hn hb) ?_)
  rw [e2]; exact z
theorem mr_lbrk (h : mr_E nT cn T C T2 C2) (hn : nT ≤ 4) (h0 : ∀ t, t < nT → 0 < cn t) {a b co : Nat} (ha : a < nT) (hb : b < nT) (hc : co < cn a) : mt_lbrk T C (nI a) co (nI b) ↔ mt_lbrk T2 C2 (nI a) co (nI b) := ⟨mr_lbrk1 h hn h0 ha hb hc, mr_lbrk1 h.symm hn h0 ha hb hc⟩
end MR
/-- right words look at the table's columns alone -/
theorem mr_ev {wd : Nat → Nat} {cols n : Nat} {row row2 : Nat → Int32} (hr : mt_right wd cols n) (h : ∀ c, c < cols → row c = row2 c) : mt_ev wd n row = mt_ev wd n row2 := by
  have key : ∀ k, k ≤ n → mt_pile wd row k = mt_pile wd row2 k := by
    intro k
    induction k with
    | zero => intro _; rfl
    | succ k ih =>
      intro hk
      have e := ih (by omega)
      obtain ⟨y, hy⟩ := mt_h_some hr k (by omega)
      obtain ⟨y2, hy2⟩ := mt_h_some hr (k + 1) hk
      obtain ⟨hok, -⟩ := mt_h_inv hy hy2
      have hv : mt_val row (wd k) (mt_pile wd row k) (mt_hh wd k - mt_tk (wd k)) = mt_val row2 (wd k) (mt_pile wd row2 k) (mt_hh wd k - mt_tk (wd k)) := by
        rw [e]
        unfold mt_val mt_lay
        by_cases z : wd k ≤ 3
        · rw [if_pos z, if_pos z, h (wd k) (by omega)]
        · rw [if_neg z, if_neg z]
      rw [mt_pile, mt_pile, hv, e]
  unfold mt_ev
  rw [key n (Nat.le_refl _)]
section MR2
variable {nT : Nat} {cn : Nat → Nat} {T C T2 C2 : Nat → Int32} {f : Nat → Nat}
theorem mr_cbrk1 (h : mr_E nT cn T C T2 C2) (hn : nT ≤ 4) {a n : Nat} {wd : Nat → Nat} (ha : a < nT) (hr : mt_right wd (cn a) n) (z : mt_cbrk T C (nI a) wd n) : mt_cbrk T2 C2 (nI a) wd n := by
  obtain ⟨f, hf⟩ := h
  obtain ⟨p, hp, h1, h2⟩ := z
  obtain ⟨a1, a2⟩ := hf.at hn hp ha h1
  refine ⟨f p, a1, a2, ?_⟩
  rw [mr_ev hr (fun c hc => hf.cell hn hp ha h1 hc)]
  exact h2
theorem mr_cbrk (h : mr_E nT cn T C T2 C2) (hn : nT ≤ 4) {a n : Nat} {wd : Nat → Nat} (ha : a < nT) (hr : mt_right wd (cn a) n) : mt_cbrk T C (nI a) wd n ↔ mt_cbrk T2 C2 (nI a) wd n := ⟨mr_cbrk1 h hn ha hr, mr_cbrk1 h.symm hn ha hr⟩
theorem mr_has1 (h : mr_E nT cn T C T2 C2) (hn : nT ≤ 4) (h0 : ∀ t, t < nT → 0 < cn t) {t : Nat} {k : Int32} (ht : t < nT) (z : mt_has T C (nI t) k) : mt_has T2 C2 (nI t) k := by
  obtain ⟨f, hf⟩ := h
  obtain ⟨p, hp, h1, h2⟩ := z
  obtain ⟨a1, a2⟩ := hf.at hn hp ht h1
  exact ⟨f p, a1, a2, by rw [hf.key hn h0 hp ht h1]; exact h2⟩
theorem mr_has (h : mr_E nT cn T C T2 C2) (hn : nT ≤ 4) (h0 : ∀ t, t < nT → 0 < cn t) {t : Nat} {k : Int32} (ht : t < nT) : mt_has T C (nI t) k ↔ mt_has T2 C2 (nI t) k := ⟨mr_has1 h hn h0 ht, mr_has1 h.symm hn h0 ht⟩
theorem mr_less (h : mr_E nT cn T C T2 C2) (hn : nT ≤ 4) (h0 : ∀ t, t < nT → 0 < cn t) {t : Nat} {k : Int32} (ht : t < nT) : mt_less T C (nI t) k = mt_less T2 C2 (nI t) k := by
  obtain ⟨f, hf⟩ := h
  refine mr_ct hf (fun p hp z => by rw [z.1]; exact mr_nt hn ht) (fun q hq z => by rw [z.1]; exact mr_nt hn ht) (fun p hp hT => ?_)
  obtain ⟨a, b, -⟩ := hf.1 p hp hT
  constructor
  · rintro ⟨h1, h2⟩
    exact ⟨b.trans h1, by rw [hf.key hn h0 hp ht h1]; exact h2⟩
  · rintro ⟨h1, h2⟩
    have h3 : T p = nI t := by rw [← b]; exact h1
    rw [hf.key hn h0 hp ht h3] at h2
    exact ⟨h3, h2⟩
theorem mr_size (h : mr_E nT cn T C T2 C2) (hn : nT ≤ 4) {t : Nat} (ht : t < nT) : mt_ct (fun q => T q = nI t) 24 = mt_ct (fun q => T2 q = nI t) 24 := by
  obtain ⟨f, hf⟩ := h
  refine mr_ct hf (fun p hp z => by rw [z]; exact mr_nt hn ht) (fun q hq z => by rw [z]; exact mr_nt hn ht) (fun p hp hT => ?_)
  rw [(hf.1 p hp hT).2.1]
theorem mr_all (h : mr_E nT cn T C T2 C2) : mt_ct (fun q => T q ≠ -1) 24 = mt_ct (fun q => T2 q ≠ -1) 24 := by
  obtain ⟨f, hf⟩ := h
  refine mr_ct hf (fun p hp z => z) (fun q hq z => z) (fun p hp hT => ?_)
  rw [(hf.1 p hp hT).2.1]
end MR2
/-! what is told first, is told alone -/
theorem mr_least {P : Nat → Prop} : ∀ (n : Nat), P n → ∃ m, P m ∧ ∀ k, P k → m ≤ k := by
  intro n
  induction n using Nat.strongRecOn with
  | _ n ih =>
    intro hn
    by_cases h : ∃ k, k < n ∧ P k
    · obtain ⟨k, h1, h2⟩ := h
      exact ih k h1 h2
    · exact ⟨n, hn, fun k hk => Nat.not_lt.mp (fun z => h ⟨k, z, hk⟩)⟩
theorem mr_first_det {P : Nat → Prop} {n k : Nat} {r r2 : Int32} {e e2 : Prop} (h : mt_first P n k r e) (h2 : mt_first P n k r2 e2) (he : e → e2 → r = r2) : r = r2 := by
  rcases h with ⟨i, a1, a2, a3, a4⟩ | ⟨a1, a2⟩
  · rcases h2 with ⟨j, b1, b2, b3, b4⟩ | ⟨b1, -⟩
    · have : i = j := by
        rcases Nat.lt_or_ge i j with z | z
        · exact absurd a3 (b4 i z)
        · rcases Nat.lt_or_ge j i with z2 | z2
          · exact absurd b3 (a4 j z2)
          · omega
      rw [a2, b2, this]
    · exact absurd a3 (b1 i a1)
  · rcases h2 with ⟨j, b1, b2, b3, b4⟩ | ⟨b1, b2⟩
    · exact absurd b3 (a1 j b1)
    · exact he a2 b2
theorem mr_first_if {P P2 : Nat → Prop} {n k : Nat} {r : Int32} {e e2 : Prop} (h : ∀ i, i < n → (P i ↔ P2 i)) (he : e ↔ e2) : mt_first P n k r e ↔ mt_first P2 n k r e2 := by
  unfold mt_first
  constructor
  · rintro (⟨i, a1, a2, a3, a4⟩ | ⟨a1, a2⟩)
    · exact Or.inl ⟨i, a1, a2, (h i a1).mp a3, fun j hj z => a4 j hj ((h j (by omega)).mpr z)⟩
    · exact Or.inr ⟨fun i hi z => a1 i hi ((h i hi).mpr z), he.mp a2⟩
  · rintro (⟨i, a1, a2, a3, a4⟩ | ⟨a1, a2⟩)
    · exact Or.inl ⟨i, a1, a2, (h i a1).mpr a3, fun j hj z => a4 j hj ((h j (by omega)).mp z)⟩
    · exact Or.inr ⟨fun i hi z => a1 i hi ((h i hi).mp z), he.mpr a2⟩
section MR3
variable {T C T2 C2 : Nat → Int32} {nT nS : Nat} {stb : Nat → Int32} {sco : Nat → Nat} {nL : Nat} {lch : Nat → Int32} {lco : Nat → Nat} {lpa : Nat → Int32} {nC : Nat} {ctb : Nat → Int32} {cwd cwd2 : Nat → Nat → Nat} {cln cn ccol : Nat → Nat} {r r2 : Int32}
theorem mr_why_det (h : mt_why T C nT nS stb sco nL lch lco lpa nC ctb cwd cln r) (h2 : mt_why T C nT nS stb sco nL lch lco lpa nC ctb cwd cln r2) : r = r2 :=
  mr_first_det h h2 fun a b => mr_first_det a b fun a b => mr_first_det a b fun a b => mr_first_det a b fun a b => a.trans b.symm
/-- the rules name tables and columns that are there -/
def mr_RL (nT : Nat) (cn : Nat → Nat) (nL : Nat) (lch : Nat → Int32) (lco : Nat → Nat) (lpa : Nat → Int32) (nS : Nat) (stb : Nat → Int32) (sco : Nat → Nat) (nC : Nat) (ctb : Nat → Int32) (ccol : Nat → Nat) : Prop :=
  (∀ j, j < nL → ∃ a b, a < nT ∧ b < nT ∧ lch j = nI a ∧ lpa j = nI b ∧ lco j < cn a) ∧ (∀ j, j < nS → ∃ a, a < nT ∧ stb j = nI a ∧ sco j < cn a) ∧ ∀ j, j < nC → ∃ a, a < nT ∧ ctb j = nI a ∧ ccol j = cn a
theorem mr_why (h : mr_E nT cn T C T2 C2) (hn : nT ≤ 4) (h0 : ∀ t, t < nT → 0 < cn t) (hl : mr_RL nT cn nL lch lco lpa nS stb sco nC ctb ccol) (hw : ∀ j, j < nC → mt_right (cwd j) (ccol j) (cln j)) :
    mt_why T C nT nS stb sco nL lch lco lpa nC ctb cwd cln r ↔ mt_why T2 C2 nT nS stb sco nL lch lco lpa nC ctb cwd cln r := by
  refine mr_first_if (fun i hi => mr_twin h hn hi (h0 i hi)) (mr_first_if (fun i hi => ?_) (mr_first_if (fun i hi => ?_) (mr_first_if (fun i hi => ?_) Iff.rfl)))
  · obtain ⟨a, h1, h2, h3⟩ := hl.2.1 i hi
    rw [h2]; exact mr_twin h hn h1 h3
  · obtain ⟨a, b, h1, h2, h3, h4, h5⟩ := hl.1 i hi
    rw [h3, h4]; exact mr_lbrk h hn h0 h1 h2 h5
  · obtain ⟨a, h1, h2, h3⟩ := hl.2.2 i hi
    have h4 := hw i hi
    rw [h3] at h4
    rw [h2]; exact mr_cbrk h hn h1 h4
theorem mr_why_cw (h : ∀ j, j < nC → ∀ i, i < cln j → cwd j i = cwd2 j i) : mt_why T C nT nS stb sco nL lch lco lpa nC ctb cwd cln r ↔ mt_why T C nT nS stb sco nL lch lco lpa nC ctb cwd2 cln r :=
  mr_first_if (fun _ _ => Iff.rfl) (mr_first_if (fun _ _ => Iff.rfl) (mr_first_if (fun _ _ => Iff.rfl) (mr_first_if (fun i hi => md_cbrk_cong (h i hi)) Iff.rfl)))
theorem mr_why_ok (h : mt_why T C nT nS stb sco nL lch lco lpa nC ctb cwd cln (nI 0)) (hn : nT ≤ 4) (hS : nS ≤ 4) (hL : nL ≤ 6) (hC : nC ≤ 4) : (∀ t, t < nT → ¬ mt_twin T C (nI t) 0) ∧ (∀ i, i < nS → ¬ mt_twin T C (stb i) (sco i)) ∧ (∀ i, i < nL → ¬ mt_lbrk T C (lch i) (lco i) (lpa i)) ∧ ∀ i, i < nC → ¬ mt_cbrk T C (ctb i) (cwd i) (cln i) := by
  have no : ∀ {k i : Nat}, 0 < k + i → k + i < 1000 → nI 0 ≠ nI (k + i) := fun h1 h2 e => by have := (nI_eq (by omega) (by omega)).mp e; omega
  rcases h with ⟨i, h1, h2, -⟩ | ⟨h1, h⟩
  · exact absurd h2 (no (by omega) (by omega))
  rcases h with ⟨i, h2, h3, -⟩ | ⟨h2, h⟩
  · exact absurd h3 (no (by omega) (by omega))
  rcases h with ⟨i, h3, h4, -⟩ | ⟨h3, h⟩
  · exact absurd h4 (no (by omega) (by omega))
  rcases h with ⟨i, h4, h5, -⟩ | ⟨h4, -⟩
  · exact absurd h5 (no (by omega) (by omega))
  exact ⟨h1, h2, h3, h4⟩
theorem mr_why_mk (h1 : ∀ t, t < nT → ¬ mt_twin T C (nI t) 0) (h2 : ∀ i, i < nS → ¬ mt_twin T C (stb i) (sco i)) (h3 : ∀ i, i < nL → ¬ mt_lbrk T C (lch i) (lco i) (lpa i)) (h4 : ∀ i, i < nC → ¬ mt_cbrk T C (ctb i) (cwd i) (cln i)) : mt_why T C nT nS stb sco nL lch lco lpa nC ctb cwd cln (nI 0) :=
  Or.inr ⟨h1, Or.inr ⟨h2, Or.inr ⟨h3, Or.inr ⟨h4, rfl⟩⟩⟩⟩
end MR3
theorem mr_st_det {kp : Int32} {W W2 : Int32 → Prop} {r r2 : Int32} (hW : ∀ a b, W a → W2 b → a = b) (h : mt_st kp W r) (h2 : mt_st kp W2 r2) : r = r2 := by
  rcases h with ⟨h1, h⟩ | ⟨i, h0, h1, h⟩
  · rcases h2 with ⟨-, h3⟩ | ⟨j, h3, h4, -⟩
    · exact hW _ _ h h3
    · rw [h1] at h4; exact absurd h4.symm (kl_nm1 (by omega))
  · rcases h2 with ⟨h4, -⟩ | ⟨j, h3, h4, h5⟩
    · rw [h1] at h4; exact absurd h4 (kl_nm1 (by omega))
    · have e : i = j := (nI_eq (by omega) (by omega)).mp (h1.symm.trans h4)
      rw [h, h5, e]
theorem mr_st_0 {kp : Int32} {W : Int32 → Prop} (h : mt_st kp W (nI 0)) : W (nI 0) := by
  rcases h with ⟨-, h⟩ | ⟨i, h0, h1, h⟩
  · exact h
  · have := (nI_eq (by omega) (by omega)).mp h; omega
theorem mr_kp_det {N N2 nL : Nat} {cnd cnd2 : Nat → Nat → Prop} {r r2 : Int32} (h : mt_kp N (fun l _ => l < nL) cnd r) (h2 : mt_kp N2 (fun l _ => l < nL) cnd2 r2) (hc : ∀ l, l < nL → ((∃ p, p < N ∧ cnd l p) ↔ ∃ q, q < N2 ∧ cnd2 l q)) : r = r2 := by
  rcases h with ⟨h1, h⟩ | ⟨i, h1, ⟨p, a1, a2, a3⟩, h⟩
  · rcases h2 with ⟨h3, -⟩ | ⟨j, h3, ⟨q, b1, b2, b3⟩, -⟩
    · rw [h1, h3]
    · obtain ⟨p, c1, c2⟩ := (hc j b2).mpr ⟨q, b1, b3⟩
      exact absurd c2 (h j p c1 b2)
  · rcases h2 with ⟨-, h4⟩ | ⟨j, h3, ⟨q, b1, b2, b3⟩, h4⟩
    · obtain ⟨q, c1, c2⟩ := (hc i a2).mp ⟨p, a1, a3⟩
      exact absurd c2 (h4 i q c1 a2)
    · obtain ⟨p2, c1, c2⟩ := (hc j b2).mpr ⟨q, b1, b3⟩
      obtain ⟨q2, d1, d2⟩ := (hc i a2).mp ⟨p, a1, a3⟩
      have e1 := h j p2 c1 b2 c2
      have e2 := h4 i q2 d1 a2 d2
      rw [h1, h3, show i = j by omega]
theorem mr_wr_det {N N2 nL : Nat} {cnd cnd2 : Nat → Nat → Prop} {lco : Nat → Nat} {V : Nat → Int32} {d d2 g g2 : Nat → Int32} (h : mt_wr N (fun l _ => l < nL) cnd lco V d g) (h2 : mt_wr N2 (fun l _ => l < nL) cnd2 lco V d2 g2) {p q c : Nat} (hp : p < N) (hq : q < N2) (hc : c < 4) (hk : ∀ l, l < nL → (cnd l p ↔ cnd2 l q)) (hd : d (4 * p + c) = d2 (4 * q + c)) : g (4 * p + c) = g2 (4 * q + c) := by
  obtain ⟨a1, a2⟩ := h p c hp hc
  obtain ⟨b1, b2⟩ := h2 q c hq hc
  by_cases z : ∃ l, l < nL ∧ cnd l p ∧ lco l = c
  · obtain ⟨l0, z0⟩ := z
    obtain ⟨l, ⟨e1, e2, e3⟩, e4⟩ := mr_least (P := fun l => l < nL ∧ cnd l p ∧ lco l = c) l0 z0
    rw [a1 l e1 e2 e3 (fun l2 k1 k2 k3 => e4 l2 ⟨k1, k2, k3⟩), b1 l e1 ((hk l e1).mp e2) e3 (fun l2 k1 k2 k3 => e4 l2 ⟨k1, (hk l2 k1).mpr k2, k3⟩)]
  · rw [a2 (fun l k1 k2 k3 => z ⟨l, k1, k2, k3⟩), b2 (fun l k1 k2 k3 => z ⟨l, k1, (hk l k1).mpr k2, k3⟩)]
    exact hd
/-- a cell that no link writes -/
theorem mr_wr_no {N nL : Nat} {cnd : Nat → Nat → Prop} {lco : Nat → Nat} {V : Nat → Int32} {d g : Nat → Int32} (h : mt_wr N (fun l _ => l < nL) cnd lco V d g) {p c : Nat} (hp : p < N) (hc : c < 4) (hno : ∀ l, l < nL → lco l ≠ c) : g (4 * p + c) = d (4 * p + c) := (h p c hp hc).2 (fun l h1 _ h3 => hno l h1 h3)
