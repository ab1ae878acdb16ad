/-! What the rows of a ledger say, in words of arrays: T p is the table of place p (-1: none), C (4 * p + c) its cell. -/
noncomputable def mt_ct (P : Nat → Prop) : Nat → Nat
  | 0 => 0
  | n + 1 => mt_ct P n + @ite Nat (P n) (Classical.propDecidable _) 1 0
theorem mt_ct_y {P : Nat → Prop} {n : Nat} (h : P n) : mt_ct P (n + 1) = mt_ct P n + 1 := by simp [mt_ct, h]
theorem mt_ct_n {P : Nat → Prop} {n : Nat} (h : ¬ P n) : mt_ct P (n + 1) = mt_ct P n := by simp [mt_ct, h]
theorem mt_ct_le (P : Nat → Prop) : ∀ n, mt_ct P n ≤ n
  | 0 => Nat.le_refl _
  | n + 1 => by
    have h := mt_ct_le P n
    by_cases q : P n
    · rw [mt_ct_y q]; omega
    · rw [mt_ct_n q]; omega
theorem mt_ct_cong {P P2 : Nat → Prop} : ∀ {n : Nat}, (∀ k, k < n → (P k ↔ P2 k)) → mt_ct P n = mt_ct P2 n
  | 0, _ => rfl
  | n + 1, h => by
    have ih := mt_ct_cong (n := n) (fun k hk => h k (by omega))
    by_cases q : P n
    · rw [mt_ct_y q, mt_ct_y ((h n (by omega)).mp q), ih]
    · rw [mt_ct_n q, mt_ct_n (fun z => q ((h n (by omega)).mpr z)), ih]
def mt_find (T C : Nat → Int32) (t k r : Int32) : Prop := (r = -1 ∧ ∀ p, p < 24 → ¬ (T p = t ∧ C (4 * p) = k)) ∨ ∃ p, p < 24 ∧ r = nI p ∧ T p = t ∧ C (4 * p) = k
def mt_free (T : Nat → Int32) (r : Int32) : Prop := (r = -1 ∧ ∀ p, p < 24 → ¬ T p = -1) ∨ ∃ p, p < 24 ∧ r = nI p ∧ T p = -1
noncomputable def mt_less (T C : Nat → Int32) (t k : Int32) : Nat := mt_ct (fun q => T q = t ∧ C (4 * q) < k) 24
def mt_rank (T C : Nat → Int32) (t k r : Int32) : Prop := (r = -1 ∧ ∀ p, p < 24 → ¬ (T p = t ∧ nI (mt_less T C t (C (4 * p))) = k)) ∨ ∃ p, p < 24 ∧ r = nI p ∧ T p = t ∧ nI (mt_less T C t (C (4 * p))) = k
def mt_twinb (T C : Nat → Int32) (p c : Nat) : Prop := ∃ q, q < p ∧ T q = T p ∧ C (4 * q + c) = C (4 * p + c)
def mt_twin (T C : Nat → Int32) (t : Int32) (c : Nat) : Prop := ∃ p, p < 24 ∧ T p = t ∧ C (4 * p + c) ≠ 0 ∧ mt_twinb T C p c
/-- the row in place p refers to the one in place q by a link -/
def mt_ref (T C : Nat → Int32) (ch : Int32) (co : Nat) (pa : Int32) (p q : Nat) : Prop := T p = ch ∧ C (4 * p + co) ≠ 0 ∧ T q = pa ∧ C (4 * q) = C (4 * p + co)
def mt_tgt (T C : Nat → Int32) (ch : Int32) (co : Nat) (pa : Int32) (p : Nat) (r : Int32) : Prop := (r = -1 ∧ ∀ q, q < 24 → ¬ mt_ref T C ch co pa p q) ∨ ∃ q, q < 24 ∧ r = nI q ∧ mt_ref T C ch co pa p q
def mt_lbrk (T C : Nat → Int32) (ch : Int32) (co : Nat) (pa : Int32) : Prop := ∃ p, p < 24 ∧ (T p = ch ∧ C (4 * p + co) ≠ 0) ∧ ∀ q, q < 24 → ¬ mt_ref T C ch co pa p q
