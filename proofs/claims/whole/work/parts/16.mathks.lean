/-! The ledger's whole state, at its places 0 to 25. -/
def kl_KF (G : kl_G) (B : Nat) (w : kl_M) (nT nL nS nC nW nM : Nat) (rs : Int32) (cn wt : Nat → Nat) (T C dT dC : Nat → Int32) (mT mC : Nat → Nat → Int32) (gg : Nat → Int32) (lf sf cf : Nat → Option Nat) : Prop :=
  w 0 = some (.inr (4, [.ref (B + 1), .int (nI nT), .ref (B + 2), .int (nI nL), .ref (B + 3), .int (nI nS), .ref (B + 4), .int (nI nC), .ref (B + 5), .int (nI nW), .ref (B + 6), .ref (B + 9), .ref (B + 12), .int (nI nM), .ref (B + 13), .int rs])) ∧
  w 1 = some (kl_aI G 4 (fun t => nI (cn t))) ∧ w 2 = some (kl_aR G 3 6 lf) ∧ w 3 = some (kl_aR G 4 4 sf) ∧ w 4 = some (kl_aR G 5 4 cf) ∧ w 5 = some (kl_aI G 10 (fun t => nI (wt t))) ∧
  w 6 = some (.inr (2, [.ref (B + 7), .ref (B + 8)])) ∧ w 7 = some (kl_aI G 24 T) ∧ w 8 = some (kl_aI G 96 C) ∧
  w 9 = some (.inr (2, [.ref (B + 10), .ref (B + 11)])) ∧ w 10 = some (kl_aI G 24 dT) ∧ w 11 = some (kl_aI G 96 dC) ∧
  w 12 = some (kl_aR G 6 4 (fun j => some (B + (14 + 3 * j)))) ∧ w 13 = some (kl_aZ G 24 gg) ∧
  w 14 = some (.inr (2, [.ref (B + 15), .ref (B + 16)])) ∧ w 15 = some (kl_aI G 24 (mT 0)) ∧ w 16 = some (kl_aI G 96 (mC 0)) ∧
  w 17 = some (.inr (2, [.ref (B + 18), .ref (B + 19)])) ∧ w 18 = some (kl_aI G 24 (mT 1)) ∧ w 19 = some (kl_aI G 96 (mC 1)) ∧
  w 20 = some (.inr (2, [.ref (B + 21), .ref (B + 22)])) ∧ w 21 = some (kl_aI G 24 (mT 2)) ∧ w 22 = some (kl_aI G 96 (mC 2)) ∧
  w 23 = some (.inr (2, [.ref (B + 24), .ref (B + 25)])) ∧ w 24 = some (kl_aI G 24 (mT 3)) ∧ w 25 = some (kl_aI G 96 (mC 3))
def kl_nup (f : Nat → Nat) (k v : Nat) : Nat → Nat := fun j => if j = k then v else f j
theorem kl_nup_upd (f : Nat → Nat) (k v : Nat) : upd (fun t => nI (f t)) k (nI v) = fun t => nI (kl_nup f k v t) := by
  funext t
  by_cases h : t = k
  · rw [h, pk_us]; simp [kl_nup]
  · rw [pk_un h]; simp [kl_nup, h]
theorem kl_nup_s {f : Nat → Nat} {k v : Nat} : kl_nup f k v k = v := by simp [kl_nup]
theorem kl_nup_n {f : Nat → Nat} {k v j : Nat} (h : j ≠ k) : kl_nup f k v j = f j := by simp [kl_nup, h]
def mt_cok (c : Int32) : Prop := ¬ c < nI 2 ∧ ¬ nI 4 < c
theorem mt_cok_nat {c : Int32} (h : mt_cok c) : ∃ k, c = nI k ∧ 2 ≤ k ∧ k ≤ 4 := by
  have h0 : ¬ c < 0 := fun z => h.1 (Int32.lt_trans z (by decide))
  obtain ⟨n, hn, rfl⟩ := nI_of h0
  refine ⟨n, rfl, ?_, ?_⟩
  · exact Nat.not_lt.mp (fun z => h.1 ((nI_ltI hn (by omega)).mpr z))
  · exact Nat.not_lt.mp (fun z => h.2 ((nI_ltI (by omega) hn).mpr z))
section KLRU2
variable {G : kl_G} {B : Nat} {w w1 : kl_M} {nL : Nat} {lf : Nat → Option Nat} {la : Nat → Nat} {lch : Nat → Int32} {lco : Nat → Nat} {lpa lwy : Nat → Int32} {nS : Nat} {sf : Nat → Option Nat} {sa : Nat → Nat} {stb : Nat → Int32} {sco : Nat → Nat} {nC : Nat} {cf : Nat → Option Nat} {ca cwa cpa : Nat → Nat} {ctb : Nat → Int32} {cln : Nat → Nat} {cwd : Nat → Nat → Nat} {ccol : Nat → Nat}
/-- with more made from place q on -/
theorem kl_RU.lt {q : Nat} (h : kl_RU G B w nL lf la lch lco lpa lwy nS sf sa stb sco nC cf ca cwa cpa ctb cln cwd ccol) (hl : ∀ (j : Nat) (e : va_E), w j = some e → j < q) (fr : ∀ j, 48 ≤ j → j < q → w1 j = w j) : kl_RU G B w1 nL lf la lch lco lpa lwy nS sf sa stb sco nC cf ca cwa cpa ctb cln cwd ccol := by
  refine ⟨fun k hk => ?_, fun k hk => ?_, fun k hk => ?_⟩
  · obtain ⟨h1, h2, h3, h4⟩ := h.1 k hk
    exact ⟨h1, h2, h3, (fr _ h2 (hl _ _ h4)).trans h4⟩
  · obtain ⟨h1, h2, h3, h4⟩ := h.2.1 k hk
    exact ⟨h1, h2, h3, (fr _ h2 (hl _ _ h4)).trans h4⟩
  · obtain ⟨h1, ⟨h2, h3, h4⟩, h5, h6, h7, h8, g, h9⟩ := h.2.2 k hk
    exact ⟨h1, ⟨h2, h3, h4⟩, h5, h6, (fr _ h2 (hl _ _ h7)).trans h7, (fr _ h3 (hl _ _ h8)).trans h8, g, (fr _ h4 (hl _ _ h9)).trans h9⟩
theorem kl_RU.addL (h : kl_RU G B w nL lf la lch lco lpa lwy nS sf sa stb sco nC cf ca cwa cpa ctb cln cwd ccol) {q co : Nat} {ch pa wy : Int32} (hq : 48 ≤ q) (hc : 0 < co ∧ co < 4) (f : w q = some (.inr (1, [.int ch, .int (nI co), .int pa, .int wy]))) :
    kl_RU G B w (nL + 1) (va_up lf nL (some (B + q))) (kl_nup la nL q) (upd lch nL ch) (kl_nup lco nL co) (upd lpa nL pa) (upd lwy nL wy) nS sf sa stb sco nC cf ca cwa cpa ctb cln cwd ccol := by
  refine ⟨fun k hk => ?_, h.2.1, h.2.2⟩
  by_cases e : k = nL
  · subst e
    rw [kl_nup_s, kl_nup_s, pk_us, pk_us, pk_us]
    exact ⟨by simp [va_up], hq, hc, f⟩
  · rw [kl_nup_n e, kl_nup_n e, pk_un e, pk_un e, pk_un e]
    obtain ⟨h1, h2, h3, h4⟩ := h.1 k (by omega)
    exact ⟨by simp [va_up, e, h1], h2, h3, h4⟩
theorem kl_RU.addS (h : kl_RU G B w nL lf la lch lco lpa lwy nS sf sa stb sco nC cf ca cwa cpa ctb cln cwd ccol) {q co : Nat} {tb : Int32} (hq : 48 ≤ q) (hc : 0 < co ∧ co < 4) (f : w q = some (.inr (3, [.int tb, .int (nI co)]))) :
    kl_RU G B w nL lf la lch lco lpa lwy (nS + 1) (va_up sf nS (some (B + q))) (kl_nup sa nS q) (upd stb nS tb) (kl_nup sco nS co) nC cf ca cwa cpa ctb cln cwd ccol := by
  refine ⟨h.1, fun k hk => ?_, h.2.2⟩
  by_cases e : k = nS
  · subst e
    rw [kl_nup_s, kl_nup_s, pk_us]
    exact ⟨by simp [va_up], hq, hc, f⟩
  · rw [kl_nup_n e, kl_nup_n e, pk_un e]
    obtain ⟨h1, h2, h3, h4⟩ := h.2.1 k (by omega)
    exact ⟨by simp [va_up, e, h1], h2, h3, h4⟩
theorem kl_RU.addC (h : kl_RU G B w nL lf la lch lco lpa lwy nS sf sa stb sco nC cf ca cwa cpa ctb cln cwd ccol) {q qw qp n col : Nat} {tb : Int32} {wd : Nat → Nat} {g : Nat → Int32} (hq : 48 ≤ q ∧ 48 ≤ qw ∧ 48 ≤ qp) (hne : qp ≠ qw) (hlt : ∀ k, k < nC → cwa k < qw ∧ cpa k < qw ∧ cwa k ≠ qp) (hr : mt_right wd col n ∧ col ≤ 4 ∧ (∀ i, i < n → mt_wok (wd i)) ∧ n ≤ 10)
    (f1 : w q = some (.inr (0, [.int tb, .ref (B + qw), .ref (B + qp)]))) (f2 : w qw = some (kl_aI G n (fun i => nI (wd i)))) (f3 : w qp = some (kl_aI G n g)) :
    kl_RU G B w nL lf la lch lco lpa lwy nS sf sa stb sco (nC + 1) (va_up cf nC (some (B + q))) (kl_nup ca nC q) (kl_nup cwa nC qw) (kl_nup cpa nC qp) (upd ctb nC tb) (kl_nup cln nC n) (fun k => if k = nC then wd else cwd k) (kl_nup ccol nC col) := by
  refine ⟨h.1, h.2.1, fun k hk => ?_⟩
  by_cases e : k = nC
  · subst e
    rw [kl_nup_s, kl_nup_s, kl_nup_s, kl_nup_s, kl_nup_s, pk_us]
    simp only [if_true]
    refine ⟨by simp [va_up], hq, hr, fun k2 hk2 => ?_, f1, f2, g, f3⟩
    by_cases e2 : k2 = k
    · rw [e2, kl_nup_s]; exact hne
    · rw [kl_nup_n e2]; exact (hlt k2 (by omega)).2.2.symm
  · rw [kl_nup_n e, kl_nup_n e, kl_nup_n e, kl_nup_n e, kl_nup_n e, pk_un e]
    simp only [if_neg e]
    obtain ⟨h1, h2, h5, h6, h7, h8, h9⟩ := h.2.2 k (by omega)
    refine ⟨by simp [va_up, e, h1], h2, h5, fun k2 hk2 => ?_, h7, h8, h9⟩
    by_cases e2 : k2 = nC
    · rw [e2, kl_nup_s]; have := (hlt k (by omega)).2.1; omega
    · rw [kl_nup_n e2]; exact h6 k2 (by omega)
end KLRU2
theorem mt_kp_r {N nL : Nat} {cnd : Nat → Nat → Prop} {r : Int32} (h : mt_kp N (fun l _ => l < nL) cnd r) (hn : nL ≤ 6) : r = -1 ∨ ∃ i, i < 6 ∧ r = nI i := by
  rcases h with ⟨h1, -⟩ | ⟨i, h1, ⟨p, h2, h3, h4⟩, -⟩
  · exact Or.inl h1
  · exact Or.inr ⟨i, by omega, h1⟩
def mt_ins (C : Nat → Int32) (p : Nat) (a b c d : Int32) : Nat → Int32 := upd (upd (upd (upd C (4 * p) a) (4 * p + 1) b) (4 * p + 2) c) (4 * p + 3) d
noncomputable def mt_shf (T C : Nat → Int32) (t : Int32) (k : Nat) (by_ : Int32) : Nat → Int32 := fun i => @ite Int32 (T (i / 4) = t ∧ i % 4 = k) (Classical.propDecidable _) (C i + by_) (C i)
