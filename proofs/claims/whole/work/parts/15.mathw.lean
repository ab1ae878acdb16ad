/-! What follows from a statement. -/
def mt_uniq (T C : Nat → Int32) : Prop := ∀ q q2, q < 24 → q2 < 24 → T q = T q2 → T q ≠ -1 → C (4 * q) = C (4 * q2) → q = q2
/-- the row in place p refers by a link to one that goes -/
def mt_lost (T C gg : Nat → Int32) (ch : Int32) (co : Nat) (pa : Int32) (p : Nat) : Prop := ∃ q, q < 24 ∧ mt_ref T C ch co pa p q ∧ gg q ≠ 0
theorem mt_ref_one {T C : Nat → Int32} {ch : Int32} {co : Nat} {pa : Int32} {p q q2 : Nat} (hu : mt_uniq T C) (hpa : pa ≠ -1) (hq : q < 24) (hq2 : q2 < 24) (h : mt_ref T C ch co pa p q) (h2 : mt_ref T C ch co pa p q2) : q = q2 :=
  hu q q2 hq hq2 (by rw [h.2.2.1, h2.2.2.1]) (by rw [h.2.2.1]; exact hpa) (by rw [h.2.2.2, h2.2.2.2])
/-- how many are marked among n -/
noncomputable def mt_gc (n : Nat) (g : Nat → Int32) : Nat := mt_ct (fun q => g q ≠ 0) n
theorem mt_ct_out {P P2 : Nat → Prop} {x : Nat} : ∀ {n : Nat}, n ≤ x → (∀ k, k ≠ x → (P k ↔ P2 k)) → mt_ct P n = mt_ct P2 n := fun {n} hn h => mt_ct_cong (fun k hk => h k (by omega))
theorem mt_ct_add {P P2 : Nat → Prop} {x : Nat} (hx : ¬ P x) (hx2 : P2 x) (h : ∀ k, k ≠ x → (P k ↔ P2 k)) : ∀ {n : Nat}, x < n → mt_ct P2 n = mt_ct P n + 1
  | 0, hn => absurd hn (Nat.not_lt_zero _)
  | n + 1, hn => by
    by_cases q : x = n
    · subst q
      rw [mt_ct_y hx2, mt_ct_n hx, mt_ct_out (Nat.le_refl _) h]
    · have ih := mt_ct_add hx hx2 h (n := n) (by omega)
      by_cases z : P n
      · rw [mt_ct_y ((h n (by omega)).mp z), mt_ct_y z, ih]
      · rw [mt_ct_n (fun k => z ((h n (by omega)).mpr k)), mt_ct_n z, ih]
theorem mt_gc_set {n x : Nat} {g : Nat → Int32} {v : Int32} (hx : x < n) (h0 : g x = 0) (hv : v ≠ 0) : mt_gc n (upd g x v) = mt_gc n g + 1 :=
  mt_ct_add (x := x) (fun z => z h0) (by show upd g x v x ≠ 0; rw [pk_us]; exact hv) (fun k hk => by rw [pk_un hk]) hx
theorem mt_ct_all {P : Nat → Prop} : ∀ {n : Nat}, n ≤ mt_ct P n → ∀ k, k < n → P k
  | 0, _, k, hk => absurd hk (Nat.not_lt_zero _)
  | n + 1, h, k, hk => by
    have h1 := mt_ct_le P n
    by_cases z : P n
    · rw [mt_ct_y z] at h
      rcases Nat.lt_or_ge k n with q | q
      · exact mt_ct_all (by omega) k q
      · rw [show k = n by omega]; exact z
    · rw [mt_ct_n z] at h
      omega
/-- the rule of a link that follows, at one row -/
def mt_chk (T C gg : Nat → Int32) (lch : Nat → Int32) (lco : Nat → Nat) (lpa lwy : Nat → Int32) (l p : Nat) : Prop := lwy l = nI 1 → gg p = 0 → ¬ mt_lost T C gg (lch l) (lco l) (lpa l) p
/-- a set that holds what follows from its own -/
def mt_closed (T C : Nat → Int32) (nL : Nat) (lch : Nat → Int32) (lco : Nat → Nat) (lpa lwy : Nat → Int32) (S : Nat → Prop) : Prop := ∀ l p q, l < nL → lwy l = nI 1 → p < 24 → q < 24 → mt_ref T C (lch l) (lco l) (lpa l) p q → S q → S p
/-- g2 holds g and only what follows from it -/
def mt_from (T C : Nat → Int32) (nL : Nat) (lch : Nat → Int32) (lco : Nat → Nat) (lpa lwy : Nat → Int32) (g g2 : Nat → Int32) : Prop := (∀ q, q < 24 → g q ≠ 0 → g2 q ≠ 0) ∧ ∀ S : Nat → Prop, mt_closed T C nL lch lco lpa lwy S → (∀ q, q < 24 → g q ≠ 0 → S q) → ∀ q, q < 24 → g2 q ≠ 0 → S q
section MTF
variable {T C : Nat → Int32} {nL : Nat} {lch : Nat → Int32} {lco : Nat → Nat} {lpa lwy : Nat → Int32} {g g2 g3 : Nat → Int32}
theorem mt_from.rf : mt_from T C nL lch lco lpa lwy g g := ⟨fun _ _ h => h, fun _ _ h => h⟩
theorem mt_from.tr (h : mt_from T C nL lch lco lpa lwy g g2) (h2 : mt_from T C nL lch lco lpa lwy g2 g3) : mt_from T C nL lch lco lpa lwy g g3 :=
  ⟨fun q hq z => h2.1 q hq (h.1 q hq z), fun S hS h0 => h2.2 S hS (h.2 S hS h0)⟩
theorem mt_from.add (h : mt_from T C nL lch lco lpa lwy g g2) {l x : Nat} (hl : l < nL) (hw : lwy l = nI 1) (hx : x < 24) (hlost : mt_lost T C g2 (lch l) (lco l) (lpa l) x) : mt_from T C nL lch lco lpa lwy g (upd g2 x (nI 1)) := by
  refine ⟨fun q hq z => ?_, fun S hS h0 q hq z => ?_⟩
  · by_cases e : q = x
    · rw [e, pk_us]; decide
    · rw [pk_un e]; exact h.1 q hq z
  · by_cases e : q = x
    · obtain ⟨y, hy, h1, h2⟩ := hlost
      rw [e]
      exact hS l x y hl hw hx hy h1 (h.2 S hS h0 y hy h2)
    · rw [pk_un e] at z
      exact h.2 S hS h0 q hq z
end MTF
/-- writes of links, from the last to the first, into the cells of N rows: D what is done, cnd when a link writes at a row, V what -/
def mt_wr (N : Nat) (D cnd : Nat → Nat → Prop) (lco : Nat → Nat) (V : Nat → Int32) (d g : Nat → Int32) : Prop := ∀ p c, p < N → c < 4 →
  (∀ l, D l p → cnd l p → lco l = c → (∀ l2, D l2 p → cnd l2 p → lco l2 = c → l ≤ l2) → g (4 * p + c) = V l) ∧ ((∀ l, D l p → cnd l p → lco l = c → False) → g (4 * p + c) = d (4 * p + c))
section MTW
variable {N : Nat} {D D2 cnd : Nat → Nat → Prop} {lco : Nat → Nat} {V : Nat → Int32} {d g : Nat → Int32}
theorem mt_wr.rf (h : ∀ l p, p < N → ¬ D l p) : mt_wr N D cnd lco V d d := fun p c hp hc => ⟨fun l h1 => absurd h1 (h l p hp), fun _ => rfl⟩
theorem mt_wr.same (h : mt_wr N D cnd lco V d g) (hD : ∀ l p, p < N → (D2 l p ↔ D l p)) : mt_wr N D2 cnd lco V d g := fun p c hp hc => by
  obtain ⟨h1, h2⟩ := h p c hp hc
  exact ⟨fun l a b e f => h1 l ((hD l p hp).mp a) b e (fun l2 a2 => f l2 ((hD l2 p hp).mpr a2)), fun f => h2 (fun l a => f l ((hD l p hp).mpr a))⟩
/-- one more that doesn't write -/
theorem mt_wr.no (h : mt_wr N D cnd lco V d g) {l0 x : Nat} (hD : ∀ l p, p < N → (D2 l p ↔ D l p ∨ (l = l0 ∧ p = x))) (hc0 : ¬ cnd l0 x) : mt_wr N D2 cnd lco V d g := fun p c hp hc => by
  obtain ⟨h1, h2⟩ := h p c hp hc
  refine ⟨fun l a b e f => h1 l ?_ b e (fun l2 a2 => f l2 ((hD l2 p hp).mpr (Or.inl a2))), fun f => h2 (fun l a => f l ((hD l p hp).mpr (Or.inl a)))⟩
  rcases (hD l p hp).mp a with z | ⟨rfl, rfl⟩
  · exact z
  · exact absurd b hc0
/-- one more that writes -/
theorem mt_wr.yes (h : mt_wr N D cnd lco V d g) {l0 x : Nat} (hx : x < N) (hD : ∀ l p, p < N → (D2 l p ↔ D l p ∨ (l = l0 ∧ p = x))) (hlt : ∀ l, D l x → l0 ≤ l) (hc0 : cnd l0 x) (hco : lco l0 < 4) : mt_wr N D2 cnd lco V d (upd g (4 * x + lco l0) (V l0)) := fun p c hp hc => by
  obtain ⟨h1, h2⟩ := h p c hp hc
  by_cases e : p = x ∧ c = lco l0
  · obtain ⟨rfl, rfl⟩ := e
    refine ⟨fun l a b e f => ?_, fun f => (f l0 ((hD l0 p hp).mpr (Or.inr ⟨rfl, rfl⟩)) hc0 rfl).elim⟩
    rw [pk_us]
    have h3 := f l0 ((hD l0 p hp).mpr (Or.inr ⟨rfl, rfl⟩)) hc0 rfl
    rcases (hD l p hp).mp a with z | ⟨rfl, -⟩
    · rw [show l = l0 by have := hlt l z; omega]
    · rfl
  · have hne : 4 * p + c ≠ 4 * x + lco l0 := by omega
    rw [pk_un hne]
    refine ⟨fun l a b e2 f => h1 l ?_ b e2 (fun l2 a2 => f l2 ((hD l2 p hp).mpr (Or.inl a2))), fun f => h2 (fun l a => f l ((hD l p hp).mpr (Or.inl a)))⟩
    rcases (hD l p hp).mp a with z | ⟨rfl, rfl⟩
    · exact z
    · exact absurd ⟨rfl, e2.symm⟩ e
end MTW
/-- the least link that keeps a row, among what is done -/
def mt_kp (N : Nat) (D cnd : Nat → Nat → Prop) (r : Int32) : Prop := (r = -1 ∧ ∀ l p, p < N → D l p → ¬ cnd l p) ∨ ∃ i, r = nI i ∧ (∃ p, p < N ∧ D i p ∧ cnd i p) ∧ ∀ l p, p < N → D l p → cnd l p → i ≤ l
section MTK
variable {N : Nat} {D D2 cnd : Nat → Nat → Prop} {r : Int32}
theorem mt_kp.rf (h : ∀ l p, p < N → ¬ D l p) : mt_kp N D cnd (-1) := Or.inl ⟨rfl, fun l p hp h1 => absurd h1 (h l p hp)⟩
theorem mt_kp.same (h : mt_kp N D cnd r) (hD : ∀ l p, p < N → (D2 l p ↔ D l p)) : mt_kp N D2 cnd r := by
  rcases h with ⟨h1, h2⟩ | ⟨i, h1, ⟨p, h2, h3, h4⟩, h5⟩
  · exact Or.inl ⟨h1, fun l p hp a => h2 l p hp ((hD l p hp).mp a)⟩
  · exact Or.inr ⟨i, h1, ⟨p, h2, (hD i p h2).mpr h3, h4⟩, fun l p hp a => h5 l p hp ((hD l p hp).mp a)⟩
theorem mt_kp.no (h : mt_kp N D cnd r) {l0 x : Nat} (hD : ∀ l p, p < N → (D2 l p ↔ D l p ∨ (l = l0 ∧ p = x))) (hc0 : ¬ cnd l0 x) : mt_kp N D2 cnd r := by
  have hh : ∀ l p, p < N → D2 l p → cnd l p → D l p := fun l p hp a b => by
    rcases (hD l p hp).mp a with z | ⟨rfl, rfl⟩
    · exact z
    · exact absurd b hc0
  rcases h with ⟨h1, h2⟩ | ⟨i, h1, ⟨p, h2, h3, h4⟩, h5⟩
  · exact Or.inl ⟨h1, fun l p hp a b => h2 l p hp (hh l p hp a b) b⟩
  · exact Or.inr ⟨i, h1, ⟨p, h2, (hD i p h2).mpr (Or.inl h3), h4⟩, fun l p hp a b => h5 l p hp (hh l p hp a b) b⟩
theorem mt_kp.yes {l0 x : Nat} (hx : x < N) (hD : ∀ l p, p < N → (D2 l p ↔ D l p ∨ (l = l0 ∧ p = x))) (hlt : ∀ l p, p < N → D l p → l0 ≤ l) (hc0 : cnd l0 x) : mt_kp N D2 cnd (nI l0) :=
  Or.inr ⟨l0, rfl, ⟨x, hx, (hD l0 x hx).mpr (Or.inr ⟨rfl, rfl⟩), hc0⟩, fun l p hp a _ => by
    rcases (hD l p hp).mp a with z | ⟨rfl, rfl⟩
    · exact hlt l p hp z
    · exact Nat.le_refl _⟩
end MTK
/-- the tables without those that go -/
def mt_rm (gg T : Nat → Int32) : Nat → Int32 := fun p => if gg p = 0 then T p else -1
theorem mt_upd_sp {Sp : Nat → Int32 → Prop} {g : Nat → Int32} {p : Nat} {v : Int32} (h : ∀ q, q < p → Sp q (g q)) (hv : Sp p v) : ∀ q, q < p + 1 → Sp q (upd g p v q) := by
  intro q hq
  by_cases z : q = p
  · rw [z, pk_us]; exact hv
  · rw [pk_un z]; exact h q (by omega)
def mt_mark (T C : Nat → Int32) (t : Int32) (c : Nat) (x : Int32) (p : Nat) (v : Int32) : Prop := (T p = t ∧ C (4 * p + c) = x → v = nI 1) ∧ (¬ (T p = t ∧ C (4 * p + c) = x) → v = nI 0)
/-- one round of what follows: m is 1 when something more is marked -/
def mt_sp (T C : Nat → Int32) (lch : Nat → Int32) (lco : Nat → Nat) (lpa lwy : Nat → Int32) (D : Nat → Nat → Prop) (gg g : Nat → Int32) (m : Nat) : Prop := (m = 0 ∧ g = gg ∧ ∀ l p, p < 24 → D l p → mt_chk T C gg lch lco lpa lwy l p) ∨ (m = 1 ∧ mt_gc 24 gg < mt_gc 24 g)
section MTSP
variable {T C : Nat → Int32} {lch : Nat → Int32} {lco : Nat → Nat} {lpa lwy : Nat → Int32} {D D2 : Nat → Nat → Prop} {gg g : Nat → Int32} {m : Nat}
theorem mt_sp.rf (h : ∀ l p, p < 24 → ¬ D l p) : mt_sp T C lch lco lpa lwy D gg gg 0 := Or.inl ⟨rfl, rfl, fun l p hp z => absurd z (h l p hp)⟩
theorem mt_sp.same (h : mt_sp T C lch lco lpa lwy D gg g m) (hD : ∀ l p, p < 24 → (D2 l p → D l p)) : mt_sp T C lch lco lpa lwy D2 gg g m := by
  rcases h with ⟨h1, h2, h3⟩ | h
  · exact Or.inl ⟨h1, h2, fun l p hp z => h3 l p hp (hD l p hp z)⟩
  · exact Or.inr h
theorem mt_sp.skip (h : mt_sp T C lch lco lpa lwy D gg g m) {l0 x : Nat} (hD : ∀ l p, p < 24 → (D2 l p → D l p ∨ (l = l0 ∧ p = x))) (hc : mt_chk T C g lch lco lpa lwy l0 x) : mt_sp T C lch lco lpa lwy D2 gg g m := by
  rcases h with ⟨h1, h2, h3⟩ | h
  · refine Or.inl ⟨h1, h2, fun l p hp z => ?_⟩
    rcases hD l p hp z with q | ⟨rfl, rfl⟩
    · exact h3 l p hp q
    · rw [← h2]; exact hc
  · exact Or.inr h
theorem mt_sp.set (h : mt_sp T C lch lco lpa lwy D gg g m) {x : Nat} (hx : x < 24) (h0 : g x = 0) : mt_sp T C lch lco lpa lwy D2 gg (upd g x (nI 1)) 1 := by
  refine Or.inr ⟨rfl, ?_⟩
  rw [mt_gc_set hx h0 (by decide)]
  rcases h with ⟨-, h2, -⟩ | ⟨-, h2⟩
  · rw [h2]; omega
  · omega
theorem mt_sp.nar (h : mt_sp T C lch lco lpa lwy D gg g m) : narrow .boolean (.int (nI m)) = .int (nI m) := by
  rcases h with ⟨rfl, -⟩ | ⟨rfl, -⟩ <;> decide
end MTSP
theorem mt_wr.put {N : Nat} {D D2 cnd : Nat → Nat → Prop} {lco : Nat → Nat} {V : Nat → Int32} {d g : Nat → Int32} (h : mt_wr N D cnd lco V d g) {l0 x : Nat} {v : Int32} (hv : V l0 = v) (hx : x < N) (hD : ∀ l p, p < N → (D2 l p ↔ D l p ∨ (l = l0 ∧ p = x))) (hlt : ∀ l, D l x → l0 ≤ l) (hc0 : cnd l0 x) (hco : lco l0 < 4) : mt_wr N D2 cnd lco V d (upd g (4 * x + lco l0) v) := by
  rw [← hv]
  exact h.yes hx hD hlt hc0 hco
theorem mt_dec (x : Nat) : nI x + Int32.ofInt (-1) = nI x - nI 1 := by
  rw [Int32.sub_eq_add_neg]
  rfl
theorem mt_pred (k : Nat) : nI (k + 1) - nI 1 = nI k := nI_pred k
