/-! The rows of the ledger and of the model, side by side, and what statements make of them. -/
def mr_RW (nT : Nat) (cn : Nat → Nat) (T C : Nat → Int32) (n : Nat) (O D : Nat → Int32) : Prop := mr_E nT cn T C (md_T n O) D ∧ mr_tb nT T ∧ (∀ p, p < 24 → T p ≠ -1 → C (4 * p) ≠ 0) ∧ (∀ q, q < n → O q ≠ -1) ∧ n ≤ 24
theorem mr_uniq {nT : Nat} {T C : Nat → Int32} (htb : mr_tb nT T) (hk : ∀ p, p < 24 → T p ≠ -1 → C (4 * p) ≠ 0) (hw : ∀ t, t < nT → ¬ mt_twin T C (nI t) 0) : mt_uniq T C := by
  intro q q2 hq hq2 e1 e2 e3
  by_cases h : q = q2
  · exact h
  · obtain ⟨t, ht, e⟩ := htb q hq e2
    exact absurd (mr_tw2.mpr ⟨q, q2, hq, hq2, h, e, by rw [← e1]; exact e, hk q hq e2, e3.symm⟩) (hw t ht)
section MRW
variable {nT n : Nat} {cn : Nat → Nat} {T C O D O2 D2 : Nat → Int32} {f : Nat → Nat}
theorem md_T_cong (h : ∀ q, q < n → O2 q = O q) : md_T n O2 = md_T n O := by
  funext p
  unfold md_T
  by_cases hp : p < n
  · rw [if_pos hp, if_pos hp, h p hp]
  · rw [if_neg hp, if_neg hp]
theorem mr_R.snap (h : mr_R nT cn T C (md_T n O) D f) (hc4 : ∀ t, t < nT → cn t ≤ 4) (h1 : ∀ q, q < n → O2 q = O q) (h2 : ∀ k, k < 4 * n → D2 k = D k) : mr_R nT cn T C (md_T n O2) D2 f := by
  rw [md_T_cong h1]
  refine ⟨fun p hp hT => ?_, h.2.1, h.2.2⟩
  obtain ⟨a, b, e⟩ := h.1 p hp hT
  refine ⟨a, b, fun t c ht ht2 hc => ?_⟩
  have hlt : f p < n := (md_ne hT b).1
  have := hc4 t ht
  rw [h2 _ (by omega)]
  exact e t c ht ht2 hc
theorem mr_RW.same (h : mr_RW nT cn T C n O D) (hc4 : ∀ t, t < nT → cn t ≤ 4) (h1 : ∀ q, q < n → O2 q = O q) (h2 : ∀ k, k < 4 * n → D2 k = D k) : mr_RW nT cn T C n O2 D2 := by
  obtain ⟨⟨f, hf⟩, a, b, c, d⟩ := h
  exact ⟨⟨f, hf.snap hc4 h1 h2⟩, a, b, fun q hq => by rw [h1 q hq]; exact c q hq, d⟩
theorem mr_RW.full (h : mr_RW nT cn T C n O D) : (∀ p, p < 24 → ¬ T p = -1) ↔ n = 24 := by
  obtain ⟨hE, -, -, hO, hn⟩ := h
  have e := mr_all hE
  have e2 : mt_ct (fun q => md_T n O q ≠ -1) 24 = n := by
    rw [md_ct_ext hn (fun p hp z => z (md_ge hp))]
    have : mt_ct (fun q => md_T n O q ≠ -1) n = mt_ct (fun _ => True) n := mt_ct_cong (fun k hk => by
      rw [md_lt hk]
      exact ⟨fun _ => trivial, fun _ => hO k hk⟩)
    rw [this]
    clear this e hO hE hn
    induction n with
    | zero => rfl
    | succ n ih => rw [mt_ct_y (P := fun _ => True) trivial, ih]
  rw [e2] at e
  constructor
  · intro h1
    have : mt_ct (fun q => T q ≠ -1) 24 = mt_ct (fun _ => True) 24 := mt_ct_cong (fun k hk => ⟨fun _ => trivial, fun _ => h1 k hk⟩)
    rw [e] at this
    rw [this]
    simp [mt_ct]
  · intro h1 p hp
    exact mt_ct_all (P := fun q => T q ≠ -1) (n := 24) (by omega) p hp
end MRW
section MRW2
variable {nT n : Nat} {cn : Nat → Nat} {T C O D : Nat → Int32}
theorem mr_insC {C : Nat → Int32} {p0 p c : Nat} {a b c1 d : Int32} (h : p ≠ p0) (hc : c < 4) : mt_ins C p0 a b c1 d (4 * p + c) = C (4 * p + c) := by
  unfold mt_ins
  rw [pk_un (by omega), pk_un (by omega), pk_un (by omega), pk_un (by omega)]
theorem mr_insD {D : Nat → Int32} {n k p c : Nat} {a b c1 d : Int32} (h : p ≠ n) (hc : c < 4) : md_ins D n k a b c1 d (4 * p + c) = D (4 * p + c) := by
  unfold md_ins
  rw [pk_un (by omega), pk_un (by omega), pk_un (by omega), pk_un (by omega)]
theorem mr_ins0 {C D : Nat → Int32} {p0 n k c : Nat} {a b c1 d : Int32} (hk : k ≤ 4) (hc : c < k) : md_ins D n k a b c1 d (4 * n + c) = mt_ins C p0 a b c1 d (4 * p0 + c) := by
  have key : ∀ (A : Nat → Int32) (m : Nat) (x0 x1 x2 x3 : Int32) (i : Nat), i < 4 → upd (upd (upd (upd A (4 * m) x0) (4 * m + 1) x1) (4 * m + 2) x2) (4 * m + 3) x3 (4 * m + i) = if i = 0 then x0 else if i = 1 then x1 else if i = 2 then x2 else x3 := by
    intro A m x0 x1 x2 x3 i hi
    rcases (show i = 0 ∨ i = 1 ∨ i = 2 ∨ i = 3 by omega) with rfl | rfl | rfl | rfl
    · rw [pk_un (by omega), pk_un (by omega), pk_un (by omega), Nat.add_zero, pk_us]; rfl
    · rw [pk_un (by omega), pk_un (by omega), pk_us]; rfl
    · rw [pk_un (by omega), pk_us]; rfl
    · rw [pk_us]; rfl
  unfold md_ins mt_ins
  rw [key _ _ _ _ _ _ _ (by omega), key _ _ _ _ _ _ _ (by omega)]
  rcases (show c = 0 ∨ c = 1 ∨ c = 2 ∨ c = 3 by omega) with rfl | rfl | rfl | rfl
  · rfl
  · rfl
  · simp only [if_pos hc]; rfl
  · simp only [if_pos hc]; rfl
theorem mr_RW.ins (h : mr_RW nT cn T C n O D) (hn4 : nT ≤ 4) (hc4 : ∀ t, t < nT → 2 ≤ cn t ∧ cn t ≤ 4) {t p0 : Nat} {a b c1 d : Int32} (ht : t < nT) (ha : a ≠ 0) (hp0 : p0 < 24) (hfree : T p0 = -1) (hn : n < 24) : mr_RW nT cn (upd T p0 (nI t)) (mt_ins C p0 a b c1 d) (n + 1) (upd O n (nI t)) (md_ins D n (cn t) a b c1 d) := by
  obtain ⟨⟨f, hf⟩, htb, hk, hO, hn24⟩ := h
  have hfl : ∀ p, p < 24 → T p ≠ -1 → f p < n := fun p hp hT => (md_ne hT (hf.1 p hp hT).2.1).1
  have hT2 : ∀ q, q < n → md_T (n + 1) (upd O n (nI t)) q = md_T n O q := fun q hq => by
    rw [md_lt (by omega), md_lt hq, pk_un (by omega)]
  have hTn : md_T (n + 1) (upd O n (nI t)) n = nI t := by rw [md_lt (by omega), pk_us]
  refine ⟨⟨fun p => if p = p0 then n else f p, fun p hp hT => ?_, fun p q hp hq hT hT2' e => ?_, fun q hq hT => ?_⟩, fun p hp hT => ?_, fun p hp hT => ?_, fun q hq => ?_, by omega⟩
  · by_cases e : p = p0
    · subst e
      simp only [if_true]
      refine ⟨hn, by rw [hTn, pk_us], fun t2 c ht2 h2 hc => ?_⟩
      rw [pk_us] at h2
      have : t = t2 := (nI_eq (by omega) (by omega)).mp h2
      subst this
      exact mr_ins0 (hc4 t ht).2 hc
    · simp only [if_neg e]
      rw [pk_un e] at hT ⊢
      obtain ⟨a1, a2, a3⟩ := hf.1 p hp hT
      have hl := hfl p hp hT
      refine ⟨a1, by rw [hT2 _ hl]; exact a2, fun t2 c ht2 h2 hc => ?_⟩
      have := (hc4 t2 ht2).2
      rw [mr_insD (by omega) (by omega), mr_insC e (by omega)]
      exact a3 t2 c ht2 h2 hc
  · by_cases e1 : p = p0 <;> by_cases e2 : q = p0
    · rw [e1, e2]
    · simp only [if_pos e1, if_neg e2] at e
      rw [pk_un e2] at hT2'
      have := hfl q hq hT2'
      omega
    · simp only [if_neg e1, if_pos e2] at e
      rw [pk_un e1] at hT
      have := hfl p hp hT
      omega
    · simp only [if_neg e1, if_neg e2] at e
      rw [pk_un e1] at hT
      rw [pk_un e2] at hT2'
      exact hf.2.1 p q hp hq hT hT2' e
  · by_cases e : q = n
    · refine ⟨p0, hp0, by rw [pk_us]; exact mr_nt hn4 ht, ?_⟩
      simp only [if_true]
      exact e.symm
    · have hqn : q < n := by
        rcases Nat.lt_or_ge q n with z | z
        · exact z
        · exact absurd (md_ge (by omega)) hT
      rw [hT2 q hqn] at hT
      obtain ⟨p, b1, b2, b3⟩ := hf.2.2 q hq hT
      have hne : p ≠ p0 := fun z => b2 (by rw [z]; exact hfree)
      exact ⟨p, b1, by rw [pk_un hne]; exact b2, by simp only [if_neg hne]; exact b3⟩
  · by_cases e : p = p0
    · exact ⟨t, ht, by rw [e, pk_us]⟩
    · rw [pk_un e] at hT ⊢
      exact htb p hp hT
  · by_cases e : p = p0
    · subst e
      unfold mt_ins
      rw [pk_un (by omega), pk_un (by omega), pk_un (by omega), pk_us]
      exact ha
    · rw [pk_un e] at hT
      have := mr_insC (C := C) (a := a) (b := b) (c1 := c1) (d := d) e (show 0 < 4 by omega)
      rw [Nat.add_zero] at this
      rw [this]
      exact hk p hp hT
  · by_cases e : q = n
    · rw [e, pk_us]; exact mr_nt hn4 ht
    · rw [pk_un e]
      exact hO q (by omega)
theorem mr_RW.shf (h : mr_RW nT cn T C n O D) (hc4 : ∀ t, t < nT → 2 ≤ cn t ∧ cn t ≤ 4) {t : Int32} {q : Nat} {b : Int32} (hq0 : 0 < q) (hq : q < 4) : mr_RW nT cn T (mt_shf T C t q b) n O (mt_shf (md_T n O) D t q b) := by
  obtain ⟨⟨f, hf⟩, htb, hk, hO, hn24⟩ := h
  refine ⟨⟨f, fun p hp hT => ?_, hf.2.1, hf.2.2⟩, htb, fun p hp hT => ?_, hO, hn24⟩
  · obtain ⟨a1, a2, a3⟩ := hf.1 p hp hT
    refine ⟨a1, a2, fun t2 c ht2 h2 hc => ?_⟩
    have := (hc4 t2 ht2).2
    have h3 := a3 t2 c ht2 h2 hc
    by_cases e : T p = t ∧ c = q
    · rw [mt_shf_h (by omega) ⟨a2.trans e.1, e.2⟩, mt_shf_h (by omega) e, h3]
    · rw [mt_shf_n (by omega) (fun z => e ⟨a2.symm.trans z.1, z.2⟩), mt_shf_n (by omega) e, h3]
  · have := mt_shf_n (T := T) (C := C) (t := t) (by_ := b) (k := q) (p := p) (show 0 < 4 by omega) (fun z => by omega)
    rw [Nat.add_zero] at this
    rw [this]
    exact hk p hp hT
/-- the place in the model of a row with a key -/
theorem mr_place {f : Nat → Nat} (hf : mr_R nT cn T C (md_T n O) D f) (hn4 : nT ≤ 4) (h0 : ∀ t, t < nT → 0 < cn t) (hu : mt_uniq T C) (hn : n ≤ 24) {t p0 p2 : Nat} {k : Int32} (ht : t < nT) (hp0 : p0 < 24) (h1 : T p0 = nI t) (h2 : C (4 * p0) = k) (hp2 : p2 < n) (h3 : O p2 = nI t) (h4 : D (4 * p2) = k) : f p0 = p2 := by
  obtain ⟨p, a1, a2, a3⟩ := hf.from hn4 (q := p2) (by omega) ht (by rw [md_lt hp2]; exact h3)
  have hkey := hf.key hn4 h0 a1 ht a2
  rw [a3, h4] at hkey
  have : p = p0 := hu p p0 a1 hp0 (by rw [a2, h1]) (by rw [a2]; exact mr_nt hn4 ht) (by rw [← hkey, h2])
  rw [← this]; exact a3
theorem mr_RW.upc (h : mr_RW nT cn T C n O D) (hn4 : nT ≤ 4) (hc4 : ∀ t, t < nT → 2 ≤ cn t ∧ cn t ≤ 4) (hu : mt_uniq T C) {t p0 p2 q : Nat} {k x : Int32} (ht : t < nT) (hp0 : p0 < 24) (h1 : T p0 = nI t) (h2 : C (4 * p0) = k) (hp2 : p2 < n) (h3 : O p2 = nI t) (h4 : D (4 * p2) = k) (hq : q < 4) (hx : q = 0 → x ≠ 0) :
    mr_RW nT cn T (upd C (4 * p0 + q) x) n O (upd D (4 * p2 + q) x) := by
  obtain ⟨⟨f, hf⟩, htb, hk, hO, hn24⟩ := h
  have hpl := mr_place hf hn4 (fun t ht => by have := hc4 t ht; omega) hu hn24 ht hp0 h1 h2 hp2 h3 h4
  refine ⟨⟨f, fun p hp hT => ?_, hf.2.1, hf.2.2⟩, htb, fun p hp hT => ?_, hO, hn24⟩
  · obtain ⟨a1, a2, a3⟩ := hf.1 p hp hT
    refine ⟨a1, a2, fun t2 c ht2 e2 hc => ?_⟩
    have := (hc4 t2 ht2).2
    have e3 := a3 t2 c ht2 e2 hc
    by_cases e : p = p0 ∧ c = q
    · obtain ⟨rfl, rfl⟩ := e
      rw [hpl, pk_us, pk_us]
    · have hne : 4 * f p + c ≠ 4 * p2 + q := fun z => by
        have z1 : f p = p2 ∧ c = q := by omega
        refine e ⟨hf.2.1 p p0 hp hp0 hT (by rw [h1]; exact mr_nt hn4 ht) (by rw [z1.1, hpl]), z1.2⟩
      rw [pk_un hne, pk_un (by omega)]
      exact e3
  · by_cases e : 4 * p = 4 * p0 + q
    · rw [e, pk_us]
      exact hx (by omega)
    · rw [pk_un e]
      exact hk p hp hT
end MRW2
