/-! What the rows of a ledger say, in words of arrays: T p is the table of place p (-1: none), C (4 * p + c) its cell. -/
noncomputable def mt_ct (P : Nat → Prop) : Nat → Nat
  | 0 => 0
  | n + 1 => mt_ct P n + @ite Nat (P n) (Classical.propDecidable _) 1 0
theorem mt_ct_y {P : Nat → Prop} {n : Nat} (h : P n) : mt_ct P (n + 1) = mt_ct P n + 1 := by simp [mt_ct, h]
theorem mt_ct_n {P : Nat → Prop} {n : Nat} (h : ¬ P n) : mt_ct P (n + 1) = mt_ct P n := by simp [mt_ct, h]
theorem mt_ct_le (P : Nat → Prop) : ∀ n, mt_ct P n ≤ n
  | 0 => Nat.le_refl _
  | n + 1 => by
    have h := mt_ct_le P n
    by_cases q : P n
    · rw [mt_ct_y q]; omega
    · rw [mt_ct_n q]; omega
theorem mt_ct_cong {P P2 : Nat → Prop} : ∀ {n : Nat}, (∀ k, k < n → (P k ↔ P2 k)) → mt_ct P n = mt_ct P2 n
  | 0, _ => rfl
  | n + 1, h => by
    have ih := mt_ct_cong (n := n) (fun k hk => h k (by omega))
    by_cases q : P n
    · rw [mt_ct_y q, mt_ct_y ((h n (by omega)).mp q), ih]
    · rw [mt_ct_n q, mt_ct_n (fun z => q ((h n (by omega)).mpr z)), ih]
def mt_find (T C : Nat → Int32) (t k r : Int32) : Prop := (r = -1 ∧ ∀ p, p < 24 → ¬ (T p = t ∧ C (4 * p) = k)) ∨ ∃ p, p < 24 ∧ r = nI p ∧ T p = t ∧ C (4 * p) = k
def mt_free (T : Nat → Int32) (r : Int32) : Prop := (r = -1 ∧ ∀ p, p < 24 → ¬ T p = -1) ∨ ∃ p, p < 24 ∧ r = nI p ∧ T p = -1
noncomputable def mt_less (T C : Nat → Int32) (t k : Int32) : Nat := mt_ct (fun q => T q = t ∧ C (4 * q) < k) 24
def mt_rank (T C : Nat → Int32) (t k r : Int32) : Prop := (r = -1 ∧ ∀ p, p < 24 → ¬ (T p = t ∧ nI (mt_less T C t (C (4 * p))) = k)) ∨ ∃ p, p < 24 ∧ r = nI p ∧ T p = t ∧ nI (mt_less T C t (C (4 * p))) = k
def mt_twinb (T C : Nat → Int32) (p c : Nat) : Prop := ∃ q, q < p ∧ T q = T p ∧ C (4 * q + c) = C (4 * p + c)
def mt_twin (T C : Nat → Int32) (t : Int32) (c : Nat) : Prop := ∃ p, p < 24 ∧ T p = t ∧ C (4 * p + c) ≠ 0 ∧ mt_twinb T C p c
/-- the row in place p refers to the one in place q by a link -/
def mt_ref (T C : Nat → Int32) (ch : Int32) (co : Nat) (pa : Int32) (p q : Nat) : Prop := T p = ch ∧ C (4 * p + co) ≠ 0 ∧ T q = pa ∧ C (4 * q) = C (4 * p + co)
def mt_tgt (T C : Nat → Int32) (ch : Int32) (co : Nat) (pa : Int32) (p : Nat) (r : Int32) : Prop := (r = -1 ∧ ∀ q, q < 24 → ¬ mt_ref T C ch co pa p q) ∨ ∃ q, q < 24 ∧ r = nI q ∧ mt_ref T C ch co pa p q
def mt_lbrk (T C : Nat → Int32) (ch : Int32) (co : Nat) (pa : Int32) : Prop := ∃ p, p < 24 ∧ (T p = ch ∧ C (4 * p + co) ≠ 0) ∧ ∀ q, q < 24 → ¬ mt_ref T C ch co pa p q
theorem mt_min {n x : Nat} (h : n ≤ x) (hx : x < 2 ^ 31) : (if nI n < nI x then nI n else nI x) = nI n := by
  by_cases q : n < x
  · rw [if_pos ((nI_ltI (by omega) hx).mpr q)]
  · rw [if_neg (fun z => q ((nI_ltI (by omega) hx).mp z)), show n = x by omega]
/-! the words of a check -/
def mt_wok (n : Nat) : Prop := n ≤ 3 ∨ (10 ≤ n ∧ n ≤ 17) ∨ (100 ≤ n ∧ n ≤ 300)
def mt_word (w : Int32) : Prop := (¬ w < 0 ∧ w ≤ nI 3) ∨ (¬ w < nI 10 ∧ w ≤ nI 17) ∨ (¬ w < nI 100 ∧ w ≤ nI 300)
theorem mt_word_nat {w : Int32} (h : mt_word w) : ∃ n, w = nI n ∧ mt_wok n := by
  have key : ∀ (lo hi : Nat), hi < 1000 → ¬ w < nI lo → lo < 1000 → w ≤ nI hi → ∃ n, w = nI n ∧ lo ≤ n ∧ n ≤ hi := by
    intro lo hi hh h1 hlo h2
    have h0 : ¬ w < 0 := fun z => h1 (by
      rw [← nI_0] at z
      exact Int32.lt_of_lt_of_le z ((nI_leI (by omega) (by omega)).mpr (Nat.zero_le _)))
    obtain ⟨n, hn, rfl⟩ := nI_of h0
    refine ⟨n, rfl, ?_, (nI_leI hn (by omega)).mp h2⟩
    rcases Nat.lt_or_ge n lo with q | q
    · exact absurd ((nI_ltI hn (by omega)).mpr q) h1
    · exact q
  rcases h with ⟨h1, h2⟩ | ⟨h1, h2⟩ | ⟨h1, h2⟩
  · obtain ⟨n, e, -, h3⟩ := key 0 3 (by omega) (by rw [nI_0]; exact h1) (by omega) h2
    exact ⟨n, e, Or.inl h3⟩
  · obtain ⟨n, e, h3, h4⟩ := key 10 17 (by omega) h1 (by omega) h2
    exact ⟨n, e, Or.inr (Or.inl ⟨h3, h4⟩)⟩
  · obtain ⟨n, e, h3, h4⟩ := key 100 300 (by omega) h1 (by omega) h2
    exact ⟨n, e, Or.inr (Or.inr ⟨h3, h4⟩)⟩
def mt_tk (n : Nat) : Nat := if n < 10 ∨ 17 < n then 0 else if n = 17 then 1 else 2
def mt_h (wd : Nat → Nat) (cols : Nat) : Nat → Option Nat
  | 0 => some 0
  | i + 1 => match mt_h wd cols i with
    | none => none
    | some h => if (wd i ≤ 3 ∧ cols ≤ wd i) ∨ h < mt_tk (wd i) then none else some (h + 1 - mt_tk (wd i))
theorem mt_h_none {wd : Nat → Nat} {cols i : Nat} (h : mt_h wd cols i = none) : ∀ n, i ≤ n → mt_h wd cols n = none
  | 0, hn => by
    obtain rfl : i = 0 := by omega
    exact h
  | n + 1, hn => by
    rcases Nat.lt_or_ge n i with q | q
    · obtain rfl : i = n + 1 := by omega
      exact h
    · rw [mt_h, mt_h_none h n q]
theorem mt_h_some {wd : Nat → Nat} {cols n : Nat} {x : Nat} (h : mt_h wd cols n = some x) : ∀ i, i ≤ n → ∃ y, mt_h wd cols i = some y := by
  intro i hi
  cases q : mt_h wd cols i with
  | none => rw [mt_h_none q n hi] at h; cases h
  | some y => exact ⟨y, rfl⟩
theorem mt_h_step {wd : Nat → Nat} {cols i h : Nat} (h1 : mt_h wd cols i = some h) (h2 : ¬ ((wd i ≤ 3 ∧ cols ≤ wd i) ∨ h < mt_tk (wd i))) : mt_h wd cols (i + 1) = some (h + 1 - mt_tk (wd i)) := by
  rw [mt_h, h1]
  exact if_neg h2
theorem mt_h_bad {wd : Nat → Nat} {cols i h : Nat} (h1 : mt_h wd cols i = some h) (h2 : (wd i ≤ 3 ∧ cols ≤ wd i) ∨ h < mt_tk (wd i)) : mt_h wd cols (i + 1) = none := by
  rw [mt_h, h1]
  exact if_pos h2
theorem mt_h_inv {wd : Nat → Nat} {cols i h y : Nat} (h1 : mt_h wd cols i = some h) (h2 : mt_h wd cols (i + 1) = some y) : ¬ ((wd i ≤ 3 ∧ cols ≤ wd i) ∨ h < mt_tk (wd i)) ∧ y = h + 1 - mt_tk (wd i) := by
  by_cases q : (wd i ≤ 3 ∧ cols ≤ wd i) ∨ h < mt_tk (wd i)
  · rw [mt_h_bad h1 q] at h2; cases h2
  · rw [mt_h_step h1 q] at h2
    exact ⟨q, (Option.some.inj h2).symm⟩
theorem mt_h_le {wd : Nat → Nat} {cols : Nat} : ∀ {i h : Nat}, mt_h wd cols i = some h → h ≤ i
  | 0, h, e => by cases e; exact Nat.le_refl _
  | i + 1, h, e => by
    obtain ⟨y, hy⟩ := mt_h_some e i (by omega)
    obtain ⟨-, rfl⟩ := mt_h_inv hy e
    have := mt_h_le hy
    omega
theorem mt_hs {h t : Nat} (ht : t ≤ h) : nI h + (nI 1 - nI t) = nI (h + 1 - t) := by
  rw [Int32.sub_eq_add_neg, ← Int32.add_assoc, ← Int32.sub_eq_add_neg, nI_add, pk_sub (by omega)]
def mt_right (wd : Nat → Nat) (cols n : Nat) : Prop := mt_h wd cols n = some 1
def mt_op (n : Nat) (x y : Int32) : Int32 := if n = 10 then x + y else if n = 11 then x - y else if n = 12 then x * y else if n = 13 then (if x < y then nI 1 else nI 0) else if n = 14 then (if x = y then nI 1 else nI 0) else if n = 15 then (if x ≠ 0 ∧ y ≠ 0 then nI 1 else nI 0) else if n = 16 then (if x ≠ 0 ∨ y ≠ 0 then nI 1 else nI 0) else (if x = 0 then nI 1 else nI 0)
def mt_lay (row : Nat → Int32) (n : Nat) : Int32 := if n ≤ 3 then row n else nI n - nI 200
/-- what a word lays on the pile g, its takings gone down to height h -/
def mt_val (row : Nat → Int32) (n : Nat) (g : Nat → Int32) (h : Nat) : Int32 := if mt_tk n = 0 then mt_lay row n else mt_op n (g h) (if n = 17 then 0 else g (h + 1))
def mt_hh (wd : Nat → Nat) : Nat → Nat
  | 0 => 0
  | i + 1 => mt_hh wd i + 1 - mt_tk (wd i)
def mt_pile (wd : Nat → Nat) (row : Nat → Int32) : Nat → Nat → Int32
  | 0 => fun _ => 0
  | i + 1 => upd (mt_pile wd row i) (mt_hh wd i - mt_tk (wd i)) (mt_val row (wd i) (mt_pile wd row i) (mt_hh wd i - mt_tk (wd i)))
def mt_ev (wd : Nat → Nat) (n : Nat) (row : Nat → Int32) : Int32 := mt_pile wd row n 0
theorem mt_hh_eq {wd : Nat → Nat} {cols : Nat} : ∀ {i h : Nat}, mt_h wd cols i = some h → mt_hh wd i = h
  | 0, h, e => by cases e; rfl
  | i + 1, h, e => by
    obtain ⟨y, hy⟩ := mt_h_some e i (by omega)
    obtain ⟨-, rfl⟩ := mt_h_inv hy e
    rw [mt_hh, mt_hh_eq hy]
theorem mt_tk_le (n : Nat) : mt_tk n ≤ 2 := by
  unfold mt_tk
  grind
theorem mt_upd_lt {g : Nat → Int32} {p : Nat} {x : Int32} (h : ∀ q, q < p → g q = x) : ∀ q, q < p + 1 → upd g p x q = x := by
  intro q hq
  by_cases z : q = p
  · rw [z, pk_us]
  · rw [pk_un z]
    exact h q (by omega)
theorem mt_tk_pos {n : Nat} (h : 0 < mt_tk n) : 10 ≤ n ∧ n ≤ 17 := by
  unfold mt_tk at h
  by_cases q : n < 10 ∨ 17 < n
  · rw [if_pos q] at h; omega
  · omega
theorem mt_tk_two {n : Nat} (h : 0 < mt_tk n) (h2 : n ≠ 17) : mt_tk n = 2 := by
  obtain ⟨h3, h4⟩ := mt_tk_pos h
  unfold mt_tk
  rw [if_neg (by omega), if_neg h2]
theorem mt_right_pos {wd : Nat → Nat} {cols n : Nat} (h : mt_right wd cols n) : 0 < n := by
  cases n with
  | zero => cases h
  | succ n => omega
theorem mt_pile_step {wd : Nat → Nat} {row : Nat → Int32} {u h : Nat} {gg : Nat → Int32} {V : Int32} (hh : mt_hh wd u = h) (ht : mt_tk (wd u) ≤ h) (hg : ∀ j, j < h → gg j = mt_pile wd row u j) (hV : V = mt_val row (wd u) gg (h - mt_tk (wd u))) :
    ∀ j, j < h - mt_tk (wd u) + 1 → upd gg (h - mt_tk (wd u)) V j = mt_pile wd row (u + 1) j := by
  have hval : V = mt_val row (wd u) (mt_pile wd row u) (h - mt_tk (wd u)) := by
    rw [hV]
    unfold mt_val
    by_cases q : mt_tk (wd u) = 0
    · rw [if_pos q, if_pos q]
    · rw [if_neg q, if_neg q, hg _ (by omega)]
      by_cases z : wd u = 17
      · rw [if_pos z, if_pos z]
      · have h2 := mt_tk_two (by omega) z
        rw [if_neg z, if_neg z, hg _ (by omega)]
  intro j hj
  rw [mt_pile, hh]
  by_cases z : j = h - mt_tk (wd u)
  · rw [z, pk_us, pk_us, hval]
  · rw [pk_un z, pk_un z]
    exact hg j (by omega)
def mt_cbrk (T C : Nat → Int32) (tb : Int32) (wd : Nat → Nat) (n : Nat) : Prop := ∃ p, p < 24 ∧ T p = tb ∧ mt_ev wd n (fun c => C (4 * p + c)) = 0
