/-! The rules' objects: links, singles, checks, as the map holds them. -/
def kl_LK (B : Nat) (w : kl_M) (nL : Nat) (lf : Nat → Option Nat) (la : Nat → Nat) (lch : Nat → Int32) (lco : Nat → Nat) (lpa lwy : Nat → Int32) : Prop := ∀ j, j < nL → lf j = some (B + la j) ∧ 48 ≤ la j ∧ (0 < lco j ∧ lco j < 4) ∧ w (la j) = some (.inr (1, [.int (lch j), .int (nI (lco j)), .int (lpa j), .int (lwy j)]))
def kl_SK (B : Nat) (w : kl_M) (nS : Nat) (sf : Nat → Option Nat) (sa : Nat → Nat) (stb : Nat → Int32) (sco : Nat → Nat) : Prop := ∀ j, j < nS → sf j = some (B + sa j) ∧ 48 ≤ sa j ∧ (0 < sco j ∧ sco j < 4) ∧ w (sa j) = some (.inr (3, [.int (stb j), .int (nI (sco j))]))
def kl_CK (G : kl_G) (B : Nat) (w : kl_M) (nC : Nat) (cf : Nat → Option Nat) (ca cwa cpa : Nat → Nat) (ctb : Nat → Int32) (cln : Nat → Nat) (cwd : Nat → Nat → Nat) (ccol : Nat → Nat) : Prop := ∀ j, j < nC → cf j = some (B + ca j) ∧ (48 ≤ ca j ∧ 48 ≤ cwa j ∧ 48 ≤ cpa j) ∧ (mt_right (cwd j) (ccol j) (cln j) ∧ ccol j ≤ 4 ∧ (∀ i, i < cln j → mt_wok (cwd j i)) ∧ cln j ≤ 10) ∧ (∀ k, k < nC → cpa j ≠ cwa k) ∧ w (ca j) = some (.inr (0, [.int (ctb j), .ref (B + cwa j), .ref (B + cpa j)])) ∧ w (cwa j) = some (kl_aI G (cln j) (fun i => nI (cwd j i))) ∧ ∃ g, w (cpa j) = some (kl_aI G (cln j) g)
def kl_RU (G : kl_G) (B : Nat) (w : kl_M) (nL : Nat) (lf : Nat → Option Nat) (la : Nat → Nat) (lch : Nat → Int32) (lco : Nat → Nat) (lpa lwy : Nat → Int32) (nS : Nat) (sf : Nat → Option Nat) (sa : Nat → Nat) (stb : Nat → Int32) (sco : Nat → Nat) (nC : Nat) (cf : Nat → Option Nat) (ca cwa cpa : Nat → Nat) (ctb : Nat → Int32) (cln : Nat → Nat) (cwd : Nat → Nat → Nat) (ccol : Nat → Nat) : Prop :=
  kl_LK B w nL lf la lch lco lpa lwy ∧ kl_SK B w nS sf sa stb sco ∧ kl_CK G B w nC cf ca cwa cpa ctb cln cwd ccol
section KLRU
variable {G : kl_G} {B : Nat} {w w1 : kl_M} {nL : Nat} {lf : Nat → Option Nat} {la : Nat → Nat} {lch : Nat → Int32} {lco : Nat → Nat} {lpa lwy : Nat → Int32} {nS : Nat} {sf : Nat → Option Nat} {sa : Nat → Nat} {stb : Nat → Int32} {sco : Nat → Nat} {nC : Nat} {cf : Nat → Option Nat} {ca cwa cpa : Nat → Nat} {ctb : Nat → Int32} {cln : Nat → Nat} {cwd : Nat → Nat → Nat} {ccol : Nat → Nat}
theorem kl_LK.mv (h : kl_LK B w nL lf la lch lco lpa lwy) (hw : ∀ j, 48 ≤ j → w1 j = w j) : kl_LK B w1 nL lf la lch lco lpa lwy := fun j hj => by
  obtain ⟨h1, h2, h3, h4⟩ := h j hj
  exact ⟨h1, h2, h3, (hw _ h2).trans h4⟩
theorem kl_SK.mv (h : kl_SK B w nS sf sa stb sco) (hw : ∀ j, 48 ≤ j → w1 j = w j) : kl_SK B w1 nS sf sa stb sco := fun j hj => by
  obtain ⟨h1, h2, h3, h4⟩ := h j hj
  exact ⟨h1, h2, h3, (hw _ h2).trans h4⟩
theorem kl_CK.mv (h : kl_CK G B w nC cf ca cwa cpa ctb cln cwd ccol) (hw : ∀ j, 48 ≤ j → w1 j = w j) : kl_CK G B w1 nC cf ca cwa cpa ctb cln cwd ccol := fun j hj => by
  obtain ⟨h1, ⟨h2, h3, h4⟩, h5, h6, h7, h8, g, h9⟩ := h j hj
  exact ⟨h1, ⟨h2, h3, h4⟩, h5, h6, (hw _ h2).trans h7, (hw _ h3).trans h8, g, (hw _ h4).trans h9⟩
theorem kl_RU.mv (h : kl_RU G B w nL lf la lch lco lpa lwy nS sf sa stb sco nC cf ca cwa cpa ctb cln cwd ccol) (hw : ∀ j, 48 ≤ j → w1 j = w j) : kl_RU G B w1 nL lf la lch lco lpa lwy nS sf sa stb sco nC cf ca cwa cpa ctb cln cwd ccol := ⟨h.1.mv hw, h.2.1.mv hw, h.2.2.mv hw⟩
/-- a pile was written -/
theorem kl_RU.pile (h : kl_RU G B w nL lf la lch lco lpa lwy nS sf sa stb sco nC cf ca cwa cpa ctb cln cwd ccol) {j : Nat} (hj : j < nC) {g2 : Nat → Int32} (f : w1 (cpa j) = some (kl_aI G (cln j) g2)) (fr : ∀ k, k ≠ cpa j → w1 k = w k) : kl_RU G B w1 nL lf la lch lco lpa lwy nS sf sa stb sco nC cf ca cwa cpa ctb cln cwd ccol := by
  obtain ⟨hl, hs, hc⟩ := h
  obtain ⟨e1, ⟨e2, e3, e4⟩, e5, e6, e7, e8, g0, e9⟩ := hc j hj
  refine ⟨fun k hk => ?_, fun k hk => ?_, fun k hk => ?_⟩
  · obtain ⟨h1, h2, h3, h4⟩ := hl k hk
    exact ⟨h1, h2, h3, (fr _ (fun z => by rw [z, e9] at h4; cases h4)).trans h4⟩
  · obtain ⟨h1, h2, h3, h4⟩ := hs k hk
    exact ⟨h1, h2, h3, (fr _ (fun z => by rw [z, e9] at h4; cases h4)).trans h4⟩
  · obtain ⟨h1, h2, h5, h6, h7, h8, g, h9⟩ := hc k hk
    refine ⟨h1, h2, h5, h6, (fr _ (fun z => by rw [z, e9] at h7; cases h7)).trans h7, (fr _ (fun z => e6 k hk z.symm)).trans h8, ?_⟩
    by_cases z : cpa k = cpa j
    · rw [z, e9] at h9
      have hn : cln j = cln k := congrArg (fun o : Option va_E => match o with | some (.inl a) => a.2.1 | _ => 0) h9
      exact ⟨g2, by rw [z, ← hn]; exact f⟩
    · exact ⟨g, (fr _ z).trans h9⟩
end KLRU
/-- the first of n things that is so, told as k and its number; else .. -/
def mt_first (P : Nat → Prop) (n k : Nat) (r : Int32) (rest : Prop) : Prop := (∃ i, i < n ∧ r = nI (k + i) ∧ P i ∧ ∀ j, j < i → ¬ P j) ∨ ((∀ i, i < n → ¬ P i) ∧ rest)
def mt_why (T C : Nat → Int32) (nT : Nat) (nS : Nat) (stb : Nat → Int32) (sco : Nat → Nat) (nL : Nat) (lch : Nat → Int32) (lco : Nat → Nat) (lpa : Nat → Int32) (nC : Nat) (ctb : Nat → Int32) (cwd : Nat → Nat → Nat) (cln : Nat → Nat) (r : Int32) : Prop :=
  mt_first (fun t => mt_twin T C (nI t) 0) nT 200 r (mt_first (fun i => mt_twin T C (stb i) (sco i)) nS 300 r (mt_first (fun i => mt_lbrk T C (lch i) (lco i) (lpa i)) nL 400 r (mt_first (fun i => mt_cbrk T C (ctb i) (cwd i) (cln i)) nC 500 r (r = nI 0))))
/-- a statement's reason: a link's keeping, or what is broken -/
def mt_st (kp : Int32) (W : Int32 → Prop) (r : Int32) : Prop := (kp = -1 ∧ W r) ∨ ∃ i, i < 6 ∧ kp = nI i ∧ r = nI (100 + i)
def mt_tab (t : Int32) (n : Nat) : Prop := ∃ j, j < n ∧ t = nI j
theorem mt_tab_y {t : Int32} {n : Nat} (hn : n < 2 ^ 31) (h0 : ¬ t < 0) (h1 : ¬ nI n ≤ t) : mt_tab t n := by
  obtain ⟨j, hj, rfl⟩ := nI_of h0
  refine ⟨j, ?_, rfl⟩
  rcases Nat.lt_or_ge j n with q | q
  · exact q
  · exact absurd (nI_le q hj) h1
theorem mt_tab_n0 {t : Int32} {n : Nat} (hn : n < 2 ^ 31) (h0 : t < 0) : ¬ mt_tab t n := fun ⟨j, hj, e⟩ => nI_pos (n := j) (by omega) (by rw [← e]; exact h0)
theorem mt_tab_n1 {t : Int32} {n : Nat} (hn : n < 2 ^ 31) (h1 : nI n ≤ t) : ¬ mt_tab t n := fun ⟨j, hj, e⟩ => by
  rw [e] at h1
  exact nI_ge hj hn h1
def mt_col (t c : Int32) (nT : Nat) (cn : Nat → Nat) : Prop := ∃ j k, j < nT ∧ t = nI j ∧ k < cn j ∧ c = nI k
theorem mt_col_tab {t c : Int32} {nT : Nat} {cn : Nat → Nat} (h : mt_col t c nT cn) : mt_tab t nT := by
  obtain ⟨j, k, h1, h2, -⟩ := h
  exact ⟨j, h1, h2⟩
