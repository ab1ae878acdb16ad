/-! What each call does to ledger and model together. -/
section OPS
variable {G : kl_G} {B : Nat} {w w1 w2 : kl_M} {ec ec2 rs2 : Int32} {ol ol2 : Nat → Int64} {nT nL nS nC nW nM n : Nat} {rs : Int32} {cn wt : Nat → Nat} {T C : Nat → Int32} {mT mC : Nat → Nat → Int32} {lf sf cf : Nat → Option Nat} {la : Nat → Nat} {lch : Nat → Int32} {lco : Nat → Nat} {lpa lwy : Nat → Int32} {sa : Nat → Nat} {stb : Nat → Int32} {sco ca cwa cpa : Nat → Nat} {ctb : Nat → Int32} {cln : Nat → Nat} {cwd : Nat → Nat → Nat} {ccol : Nat → Nat} {O D : Nat → Int32} {kR : Nat → Nat} {kO kD : Nat → Int32} {cw : Nat → Nat} {on on2 : Nat} {hi hi2 : Int32} {oO oD gn pl : Nat → Int32}
theorem md_KF.mv (hMF : md_KF G B w nT nL nS nC nW nM n on ec rs hi cn wt O D oO oD gn lch lco lpa lwy stb sco ctb cln cw pl kR kO kD) (fr : ∀ j : Nat, 26 ≤ j → j < 47 → w1 j = w j) : md_KF G B w1 nT nL nS nC nW nM n on ec rs hi cn wt O D oO oD gn lch lco lpa lwy stb sco ctb cln cw pl kR kO kD := by
  obtain ⟨q26, q27, q28, q29, q30, q31, q32, q33, q34, q35, q36, q37, q38, q39, q40, q41, q42, q43, q44, q45, q46⟩ := hMF
  exact ⟨(fr 26 (by decide) (by decide)).trans q26, (fr 27 (by decide) (by decide)).trans q27, (fr 28 (by decide) (by decide)).trans q28, (fr 29 (by decide) (by decide)).trans q29, (fr 30 (by decide) (by decide)).trans q30, (fr 31 (by decide) (by decide)).trans q31, (fr 32 (by decide) (by decide)).trans q32, (fr 33 (by decide) (by decide)).trans q33, (fr 34 (by decide) (by decide)).trans q34, (fr 35 (by decide) (by decide)).trans q35, (fr 36 (by decide) (by decide)).trans q36, (fr 37 (by decide) (by decide)).trans q37, (fr 38 (by decide) (by decide)).trans q38, (fr 39 (by decide) (by decide)).trans q39, (fr 40 (by decide) (by decide)).trans q40, (fr 41 (by decide) (by decide)).trans q41, (fr 42 (by decide) (by decide)).trans q42, (fr 43 (by decide) (by decide)).trans q43, (fr 44 (by decide) (by decide)).trans q44, (fr 45 (by decide) (by decide)).trans q45, (fr 46 (by decide) (by decide)).trans q46⟩
theorem mr_J.out (hJ : mr_J G B w ec ol nT nL nS nC nW nM n rs cn wt T C mT mC lf sf cf la lch lco lpa lwy sa stb sco ca cwa cpa ctb cln cwd ccol O D kR kO kD cw) (f47 : w1 47 = some (kl_aL G 1 ol2)) (fr : ∀ j : Nat, j ≠ 47 → w1 j = w j) : mr_J G B w1 ec ol2 nT nL nS nC nW nM n rs cn wt T C mT mC lf sf cf la lch lco lpa lwy sa stb sco ca cwa cpa ctb cln cwd ccol O D kR kO kD cw := by
  obtain ⟨⟨dT, dC, gg, k0, k1, k2, k3, k4, k5, k6, k7, k8, k9, k10, k11, k12, k13, k14, k15, k16, k17, k18, k19, k20, k21, k22, k23, k24, k25⟩, hRU, ⟨on, hi, oO, oD, gn, pl, hMF⟩, h47, hN, hRC, hRW, hW, hM⟩ := hJ
  exact ⟨⟨_, _, _, (fr 0 (by decide)).trans k0, (fr 1 (by decide)).trans k1, (fr 2 (by decide)).trans k2, (fr 3 (by decide)).trans k3, (fr 4 (by decide)).trans k4, (fr 5 (by decide)).trans k5, (fr 6 (by decide)).trans k6, (fr 7 (by decide)).trans k7, (fr 8 (by decide)).trans k8, (fr 9 (by decide)).trans k9, (fr 10 (by decide)).trans k10, (fr 11 (by decide)).trans k11, (fr 12 (by decide)).trans k12, (fr 13 (by decide)).trans k13, (fr 14 (by decide)).trans k14, (fr 15 (by decide)).trans k15, (fr 16 (by decide)).trans k16, (fr 17 (by decide)).trans k17, (fr 18 (by decide)).trans k18, (fr 19 (by decide)).trans k19, (fr 20 (by decide)).trans k20, (fr 21 (by decide)).trans k21, (fr 22 (by decide)).trans k22, (fr 23 (by decide)).trans k23, (fr 24 (by decide)).trans k24, (fr 25 (by decide)).trans k25⟩, kl_RU.mv hRU (fun j hj => fr j (by omega)), ⟨_, _, _, _, _, _, md_KF.mv hMF (fun j h1 h2 => fr j (by omega))⟩, f47, hN, hRC, hRW, hW, hM⟩
theorem kl_dr.mv (h : kl_dr G w1) (fr : ∀ j : Nat, j < 26 → w2 j = w1 j) : kl_dr G w2 := by
  obtain ⟨a, b, h1, h2⟩ := h
  exact ⟨a, b, (fr 10 (by decide)).trans h1, (fr 11 (by decide)).trans h2⟩
theorem mr_J.h0 (hJ : mr_J G B w ec ol nT nL nS nC nW nM n rs cn wt T C mT mC lf sf cf la lch lco lpa lwy sa stb sco ca cwa cpa ctb cln cwd ccol O D kR kO kD cw) : ∀ t, t < nT → 0 < cn t := fun t ht => by have := hJ.2.2.2.2.1.2.1 t ht; omega
theorem mr_J.tab (hJ : mr_J G B w ec ol nT nL nS nC nW nM n rs cn wt T C mT mC lf sf cf la lch lco lpa lwy sa stb sco ca cwa cpa ctb cln cwd ccol O D kR kO kD cw) {t : Int32} (h : mt_tab t nT) : ∃ j, j < nT ∧ t = nI j := h
theorem mr_ct_lt {P P2 : Nat → Prop} {x : Nat} : ∀ {n : Nat}, (∀ k, k < n → P k → P2 k) → x < n → ¬ P x → P2 x → mt_ct P n < mt_ct P2 n
  | 0, _, h, _, _ => absurd h (Nat.not_lt_zero _)
  | n + 1, h, hx, h1, h2 => by
    have mono : mt_ct P n ≤ mt_ct P2 n := mr_inj (f := fun k => k) (fun p hp z => ⟨hp, h p (by omega) z⟩) (fun p q _ _ _ _ e => e)
    by_cases e : x = n
    · subst e
      rw [mt_ct_n h1, mt_ct_y h2]; omega
    · have ih := mr_ct_lt (P := P) (P2 := P2) (n := n) (x := x) (fun k hk => h k (by omega)) (by omega) h1 h2
      by_cases z : P n
      · rw [mt_ct_y z, mt_ct_y (h n (by omega) z)]; omega
      · rw [mt_ct_n z]
        have : mt_ct P2 n ≤ mt_ct P2 (n + 1) := by
          by_cases y : P2 n
          · rw [mt_ct_y y]; omega
          · rw [mt_ct_n y]; omega
        omega
theorem mr_less_lt {T C : Nat → Int32} {t k k2 : Int32} {p : Nat} (hp : p < 24) (h1 : T p = t) (h2 : C (4 * p) = k) (h : k < k2) : mt_less T C t k < mt_less T C t k2 :=
  mr_ct_lt (x := p) (fun q _ z => ⟨z.1, Int32.lt_trans z.2 h⟩) hp (fun z => by rw [h2] at z; exact Int32.lt_irrefl z.2) ⟨h1, by rw [h2]; exact h⟩
theorem mr_rank {T C : Nat → Int32} {t k k2 : Int32} {p p2 : Nat} (hp : p < 24) (h1 : T p = t) (h2 : C (4 * p) = k) (hp2 : p2 < 24) (h3 : T p2 = t) (h4 : C (4 * p2) = k2) (h : nI (mt_less T C t k) = nI (mt_less T C t k2)) : k = k2 := by
  have b1 : mt_less T C t k ≤ 24 := mt_ct_le _ _
  have b2 : mt_less T C t k2 ≤ 24 := mt_ct_le _ _
  have e := (nI_eq (by omega) (by omega)).mp h
  rcases Int32.lt_or_le k k2 with z | z
  · have := mr_less_lt hp h1 h2 z; omega
  · rcases Int32.lt_or_eq_of_le z with y | y
    · have := mr_less_lt hp2 h3 h4 y; omega
    · exact y.symm
set_option maxHeartbeats 2000000 in
theorem op_has (t k : Int32) {r b : Int32} (hJ : mr_J G B w ec ol nT nL nS nC nW nM n rs cn wt T C mT mC lf sf cf la lch lco lpa lwy sa stb sco ca cwa cpa ctb cln cwd ccol O D kR kO kD cw) (hMF : md_KF G B w nT nL nS nC nW nM n on ec rs hi cn wt O D oO oD gn lch lco lpa lwy stb sco ctb cln cw pl kR kO kD) (hL : ((fun r w1 => (r = nI 0 ∧ ∃ (v : Int32) (w2 : kl_M) (u : Int64), ((fun r w1 => w = w1 ∧ mt_tab t nT ∧ kl_b r (mt_has T C t k)) : Int32 → kl_M → Prop) v w2 ∧ ((v = 0 ∧ u = 0) ∨ (v ≠ 0 ∧ u = 1)) ∧ w1 47 = some (kl_aL G 1 (vp_updL ol 0 u)) ∧ ∀ j : Nat, j ≠ 47 → w1 j = w2 j) ∨ ∃ E : String, ((fun E w1 => (E = "java/lang/IllegalArgumentException" ∧ w1 = w ∧ ¬ mt_tab t nT)) : String → kl_M → Prop) E w1 ∧ ((E = "java/lang/IllegalArgumentException" ∧ r = nI 1))) : Int32 → kl_M → Prop) r w1) (hX : (fun (w : kl_M) => ((fun r w1 => (¬ mt_tab t nT ∧ w1 26 = some (.inr (5, [.int (nI 1), .int rs, .int (nI nT), .ref (B + 27), .int (nI n), .ref (B + 28), .ref (B + 29), .int (nI on), .ref (B + 30), .ref (B + 31), .ref (B + 32), .int (nI nL), .ref (B + 33), .ref (B + 34), .ref (B + 35), .ref (B + 36), .int (nI nS), .ref (B + 37), .ref (B + 38), .int (nI nC), .ref (B + 39), .ref (B + 40), .ref (B + 41), .int (nI nW), .ref (B + 42), .int hi, .ref (B + 43), .int (nI nM), .ref (B + 44), .ref (B + 45), .ref (B + 46)])) ∧ ∀ j : Nat, j ≠ 26 → w1 j = w j) ∨ (mt_tab t nT ∧ kl_b r (k ≠ 0 ∧ mt_has (md_T n O) D t k) ∧ w1 26 = some (.inr (5, [.int (nI 0), .int rs, .int (nI nT), .ref (B + 27), .int (nI n), .ref (B + 28), .ref (B + 29), .int (nI on), .ref (B + 30), .ref (B + 31), .ref (B + 32), .int (nI nL), .ref (B + 33), .ref (B + 34), .ref (B + 35), .ref (B + 36), .int (nI nS), .ref (B + 37), .ref (B + 38), .int (nI nC), .ref (B + 39), .ref (B + 40), .ref (B + 41), .int (nI nW), .ref (B + 42), .int hi, .ref (B + 43), .int (nI nM), .ref (B + 44), .ref (B + 45), .ref (B + 46)])) ∧ ∀ j : Nat, j ≠ 26 → w1 j = w j)) : Int32 → kl_M → Prop)) w1 b w2) : ∃ ol3, mr_I G B w2 r ol3 ∧ (r = 0 → ol3 0 = if b = 0 then 0 else 1) := by
  rcases hL with ⟨rfl, v, w3, u, ⟨hw3, hok, hb⟩, hu, f47, fr47⟩ | ⟨E, hx, hE⟩
  · have hc := hJ
    obtain ⟨-, -, -, -, ⟨⟨m1, m2, m3, m4, m5, m6⟩, hcn, hwt⟩, hRC, ⟨hE0, htb, hk0, hO, hn24⟩, hW, hM⟩ := hc
    rcases hX with ⟨z, -⟩ | ⟨-, hb2, f26, fr⟩
    · exact absurd hok z
    subst hw3
    have hJ1 := hJ.out f47 fr47
    have hMF1 := hMF.mv (w1 := w1) (fun j h1 h2 => fr47 j (by omega))
    have e : b = v := by
      obtain ⟨tj, htj, rfl⟩ := hok
      have h1 : (k ≠ 0 ∧ mt_has (md_T n O) D (nI tj) k) ↔ mt_has T C (nI tj) k := by
        rw [mr_has hE0 m1 hJ.h0 htj]
        refine ⟨fun z => z.2, fun z => ⟨?_, z⟩⟩
        obtain ⟨p, a1, a2, a3⟩ := (mr_has hE0 m1 hJ.h0 htj).mpr z
        rw [← a3]
        exact hk0 p a1 (by rw [a2]; exact mr_nt m1 htj)
      rcases hb with ⟨e1, h⟩ | ⟨e1, h⟩ <;> rcases hb2 with ⟨e2, h2⟩ | ⟨e2, h2⟩
      · rw [e1, e2]
      · exact absurd (h1.mpr h) h2
      · exact absurd (h1.mp h2) h
      · rw [e1, e2]
    exact ⟨_, mr_J.kp hJ1 hMF1 f26 (md_sm.rf hMF1 (fun j h1 h2 => fr j (by omega))) (fun j a _ _ _ _ _ _ => fr j a), fun _ => (by
      rw [pk_uLs, e]
      rcases hu with ⟨h1, h2⟩ | ⟨h1, h2⟩
      · rw [if_pos h1, h2]
      · rw [if_neg h1, h2])⟩
  · obtain ⟨hE1, hw1, hno⟩ := hx
    obtain rfl : r = nI 1 := hE.2
    subst hw1
    rcases hX with ⟨-, f26, fr⟩ | ⟨z, -⟩
    · exact ⟨_, mr_J.kp hJ hMF f26 (md_sm.rf hMF (fun j h1 h2 => fr j (by omega))) (fun j a _ _ _ _ _ _ => fr j a), fun z => absurd z (by decide)⟩
    · exact absurd z hno

set_option maxHeartbeats 2000000 in
theorem op_count (t : Int32) {r b : Int32} (hJ : mr_J G B w ec ol nT nL nS nC nW nM n rs cn wt T C mT mC lf sf cf la lch lco lpa lwy sa stb sco ca cwa cpa ctb cln cwd ccol O D kR kO kD cw) (hMF : md_KF G B w nT nL nS nC nW nM n on ec rs hi cn wt O D oO oD gn lch lco lpa lwy stb sco ctb cln cw pl kR kO kD) (hL : ((fun r w1 => (r = nI 0 ∧ ∃ (v : Int32) (w2 : kl_M) (u : Int64), ((fun r w1 => w = w1 ∧ mt_tab t nT ∧ r = nI (mt_ct (fun q => T q = t) 24)) : Int32 → kl_M → Prop) v w2 ∧ u = v.toInt64 ∧ w1 47 = some (kl_aL G 1 (vp_updL ol 0 u)) ∧ ∀ j : Nat, j ≠ 47 → w1 j = w2 j) ∨ ∃ E : String, ((fun E w1 => (E = "java/lang/IllegalArgumentException" ∧ w1 = w ∧ ¬ mt_tab t nT)) : String → kl_M → Prop) E w1 ∧ ((E = "java/lang/IllegalArgumentException" ∧ r = nI 1))) : Int32 → kl_M → Prop) r w1) (hX : (fun (w : kl_M) => ((fun r w1 => (¬ mt_tab t nT ∧ w1 26 = some (.inr (5, [.int (nI 1), .int rs, .int (nI nT), .ref (B + 27), .int (nI n), .ref (B + 28), .ref (B + 29), .int (nI on), .ref (B + 30), .ref (B + 31), .ref (B + 32), .int (nI nL), .ref (B + 33), .ref (B + 34), .ref (B + 35), .ref (B + 36), .int (nI nS), .ref (B + 37), .ref (B + 38), .int (nI nC), .ref (B + 39), .ref (B + 40), .ref (B + 41), .int (nI nW), .ref (B + 42), .int hi, .ref (B + 43), .int (nI nM), .ref (B + 44), .ref (B + 45), .ref (B + 46)])) ∧ ∀ j : Nat, j ≠ 26 → w1 j = w j) ∨ (mt_tab t nT ∧ r = nI (mt_ct (fun a => md_T n O a = t) 24) ∧ w1 26 = some (.inr (5, [.int (nI 0), .int rs, .int (nI nT), .ref (B + 27), .int (nI n), .ref (B + 28), .ref (B + 29), .int (nI on), .ref (B + 30), .ref (B + 31), .ref (B + 32), .int (nI nL), .ref (B + 33), .ref (B + 34), .ref (B + 35), .ref (B + 36), .int (nI nS), .ref (B + 37), .ref (B + 38), .int (nI nC), .ref (B + 39), .ref (B + 40), .ref (B + 41), .int (nI nW), .ref (B + 42), .int hi, .ref (B + 43), .int (nI nM), .ref (B + 44), .ref (B + 45), .ref (B + 46)])) ∧ ∀ j : Nat, j ≠ 26 → w1 j = w j)) : Int32 → kl_M → Prop)) w1 b w2) : ∃ ol3, mr_I G B w2 r ol3 ∧ (r = 0 → ol3 0 = b.toInt64) := by
  rcases hL with ⟨rfl, v, w3, u, ⟨hw3, hok, hv⟩, rfl, f47, fr47⟩ | ⟨E, hx, hE⟩
  · have hc := hJ
    obtain ⟨-, -, -, -, ⟨⟨m1, m2, m3, m4, m5, m6⟩, hcn, hwt⟩, hRC, ⟨hE0, htb, hk0, hO, hn24⟩, hW, hM⟩ := hc
    rcases hX with ⟨z, -⟩ | ⟨-, hb, f26, fr⟩
    · exact absurd hok z
    subst hw3
    have hJ1 := hJ.out f47 fr47
    have hMF1 := hMF.mv (w1 := w1) (fun j h1 h2 => fr47 j (by omega))
    obtain ⟨tj, htj, rfl⟩ := hok
    exact ⟨_, mr_J.kp hJ1 hMF1 f26 (md_sm.rf hMF1 (fun j h1 h2 => fr j (by omega))) (fun j a _ _ _ _ _ _ => fr j a), fun _ => (by rw [pk_uLs, hv, hb, mr_size hE0 m1 htj])⟩
  · obtain ⟨hE1, hw1, hno⟩ := hx
    obtain rfl : r = nI 1 := hE.2
    subst hw1
    rcases hX with ⟨-, f26, fr⟩ | ⟨z, -⟩
    · exact ⟨_, mr_J.kp hJ hMF f26 (md_sm.rf hMF (fun j h1 h2 => fr j (by omega))) (fun j a _ _ _ _ _ _ => fr j a), fun z => absurd z (by decide)⟩
    · exact absurd z hno

set_option maxHeartbeats 2000000 in
theorem op_cell (t k c : Int32) {r b : Int32} (hJ : mr_J G B w ec ol nT nL nS nC nW nM n rs cn wt T C mT mC lf sf cf la lch lco lpa lwy sa stb sco ca cwa cpa ctb cln cwd ccol O D kR kO kD cw) (hMF : md_KF G B w nT nL nS nC nW nM n on ec rs hi cn wt O D oO oD gn lch lco lpa lwy stb sco ctb cln cw pl kR kO kD) (hL : ((fun r w1 => (r = nI 0 ∧ ∃ (v : Int32) (w2 : kl_M) (u : Int64), ((fun r w1 => w = w1 ∧ mt_col t c nT cn ∧ ∃ p q, p < 24 ∧ T p = t ∧ C (4 * p) = k ∧ q < 4 ∧ c = nI q ∧ r = C (4 * p + q)) : Int32 → kl_M → Prop) v w2 ∧ u = v.toInt64 ∧ w1 47 = some (kl_aL G 1 (vp_updL ol 0 u)) ∧ ∀ j : Nat, j ≠ 47 → w1 j = w2 j) ∨ ∃ E : String, ((fun E w1 => (E = "java/lang/IllegalArgumentException" ∧ w1 = w ∧ ¬ mt_col t c nT cn) ∨ (E = "java/util/NoSuchElementException" ∧ w1 = w ∧ mt_col t c nT cn ∧ ¬ mt_has T C t k)) : String → kl_M → Prop) E w1 ∧ ((E = "java/lang/IllegalArgumentException" ∧ r = nI 1) ∨ (E = "java/util/NoSuchElementException" ∧ r = nI 2))) : Int32 → kl_M → Prop) r w1) (hX : (fun (w : kl_M) => ((fun r w1 => (¬ mt_col t c nT cn ∧ w1 26 = some (.inr (5, [.int (nI 1), .int rs, .int (nI nT), .ref (B + 27), .int (nI n), .ref (B + 28), .ref (B + 29), .int (nI on), .ref (B + 30), .ref (B + 31), .ref (B + 32), .int (nI nL), .ref (B + 33), .ref (B + 34), .ref (B + 35), .ref (B + 36), .int (nI nS), .ref (B + 37), .ref (B + 38), .int (nI nC), .ref (B + 39), .ref (B + 40), .ref (B + 41), .int (nI nW), .ref (B + 42), .int hi, .ref (B + 43), .int (nI nM), .ref (B + 44), .ref (B + 45), .ref (B + 46)])) ∧ ∀ j : Nat, j ≠ 26 → w1 j = w j) ∨ (mt_col t c nT cn ∧ (k = 0 ∨ ¬ mt_has (md_T n O) D t k) ∧ w1 26 = some (.inr (5, [.int (nI 2), .int rs, .int (nI nT), .ref (B + 27), .int (nI n), .ref (B + 28), .ref (B + 29), .int (nI on), .ref (B + 30), .ref (B + 31), .ref (B + 32), .int (nI nL), .ref (B + 33), .ref (B + 34), .ref (B + 35), .ref (B + 36), .int (nI nS), .ref (B + 37), .ref (B + 38), .int (nI nC), .ref (B + 39), .ref (B + 40), .ref (B + 41), .int (nI nW), .ref (B + 42), .int hi, .ref (B + 43), .int (nI nM), .ref (B + 44), .ref (B + 45), .ref (B + 46)])) ∧ ∀ j : Nat, j ≠ 26 → w1 j = w j) ∨ (mt_col t c nT cn ∧ k ≠ 0 ∧ (∃ p q, p < n ∧ O p = t ∧ D (4 * p) = k ∧ q < 4 ∧ c = nI q ∧ r = D (4 * p + q)) ∧ w1 26 = some (.inr (5, [.int (nI 0), .int rs, .int (nI nT), .ref (B + 27), .int (nI n), .ref (B + 28), .ref (B + 29), .int (nI on), .ref (B + 30), .ref (B + 31), .ref (B + 32), .int (nI nL), .ref (B + 33), .ref (B + 34), .ref (B + 35), .ref (B + 36), .int (nI nS), .ref (B + 37), .ref (B + 38), .int (nI nC), .ref (B + 39), .ref (B + 40), .ref (B + 41), .int (nI nW), .ref (B + 42), .int hi, .ref (B + 43), .int (nI nM), .ref (B + 44), .ref (B + 45), .ref (B + 46)])) ∧ ∀ j : Nat, j ≠ 26 → w1 j = w j)) : Int32 → kl_M → Prop)) w1 b w2) : ∃ ol3, mr_I G B w2 r ol3 ∧ (r = 0 → ol3 0 = b.toInt64) := by
  have hc := hJ
  obtain ⟨-, -, -, -, ⟨⟨m1, m2, m3, m4, m5, m6⟩, hcn, hwt⟩, hRC, ⟨hE0, htb, hk0, hO, hn24⟩, hW, hM⟩ := hc
  rcases hL with ⟨rfl, v, w3, u, ⟨hw3, hok, p, q, a1, a2, a3, a4, a5, hv⟩, rfl, f47, fr47⟩ | ⟨E, hx, hE⟩
  · have hkz : k ≠ 0 ∧ mt_has (md_T n O) D t k := by
      obtain ⟨tj, q9, htj, ht, -, -⟩ := hok
      refine ⟨?_, ?_⟩
      · rw [← a3]; exact hk0 p a1 (by rw [a2, ht]; exact mr_nt m1 htj)
      · rw [ht]; exact (mr_has hE0 m1 hJ.h0 htj).mp ⟨p, a1, by rw [a2, ht], a3⟩
    rcases hX with ⟨z, -⟩ | ⟨-, z, -⟩ | ⟨-, -, ⟨p2, q2, b1, b2, b3, b4, b5, hb⟩, f26, fr⟩
    · exact absurd hok z
    · exact z.elim (fun z => absurd z hkz.1) (fun z => absurd hkz.2 z)
    subst hw3
    have hJ1 := hJ.out f47 fr47
    have hMF1 := hMF.mv (w1 := w1) (fun j h1 h2 => fr47 j (by omega))
    have e : b = v := by
      obtain ⟨tj, q9, htj, ht, hq9, hc9⟩ := hok
      have e1 : q9 = q := (nI_eq (by have := hcn tj htj; omega) (by omega)).mp (hc9.symm.trans a5)
      have e2 : q2 = q := (nI_eq (by omega) (by omega)).mp (b5.symm.trans a5)
      subst e1; subst e2
      obtain ⟨f, hf⟩ := hE0
      rw [ht] at a2 b2
      have hpl := mr_place hf m1 hJ.h0 hJ.uniq hn24 htj a1 a2 a3 b1 b2 b3
      rw [hv, hb, ← hpl]
      exact hf.cell m1 a1 htj a2 hq9
    exact ⟨_, mr_J.kp hJ1 hMF1 f26 (md_sm.rf hMF1 (fun j h1 h2 => fr j (by omega))) (fun j a _ _ _ _ _ _ => fr j a), fun _ => (by rw [pk_uLs, e])⟩
  · rcases hx with ⟨hE1, hw1, hno⟩ | ⟨hE1, hw1, hok, hno⟩
    · obtain rfl : r = nI 1 := by rcases hE with ⟨e, e2⟩ | ⟨e, e2⟩ <;> first | exact e2 | exact absurd (e.symm.trans hE1) (by decide)
      subst hw1
      rcases hX with ⟨-, f26, fr⟩ | ⟨z, -⟩ | ⟨z, -⟩
      · exact ⟨_, mr_J.kp hJ hMF f26 (md_sm.rf hMF (fun j h1 h2 => fr j (by omega))) (fun j a _ _ _ _ _ _ => fr j a), fun z => absurd z (by decide)⟩
      · exact absurd z hno
      · exact absurd z hno
    · obtain rfl : r = nI 2 := by rcases hE with ⟨e, e2⟩ | ⟨e, e2⟩ <;> first | exact e2 | exact absurd (e.symm.trans hE1) (by decide)
      subst hw1
      rcases hX with ⟨z, -⟩ | ⟨-, -, f26, fr⟩ | ⟨-, -, ⟨p2, q2, b1, b2, b3, -⟩, -⟩
      · exact absurd hok z
      · exact ⟨_, mr_J.kp hJ hMF f26 (md_sm.rf hMF (fun j h1 h2 => fr j (by omega))) (fun j a _ _ _ _ _ _ => fr j a), fun z => absurd z (by decide)⟩
      · exact absurd (by obtain ⟨tj, q9, htj, ht, -, -⟩ := hok; rw [ht] at b2 ⊢; exact (mr_has hE0 m1 hJ.h0 htj).mpr ⟨p2, by omega, by rw [md_lt b1]; exact b2, b3⟩) hno

set_option maxHeartbeats 2000000 in
theorem op_key (t k : Int32) {r b : Int32} (hJ : mr_J G B w ec ol nT nL nS nC nW nM n rs cn wt T C mT mC lf sf cf la lch lco lpa lwy sa stb sco ca cwa cpa ctb cln cwd ccol O D kR kO kD cw) (hMF : md_KF G B w nT nL nS nC nW nM n on ec rs hi cn wt O D oO oD gn lch lco lpa lwy stb sco ctb cln cw pl kR kO kD) (hL : ((fun r w1 => (r = nI 0 ∧ ∃ (v : Int32) (w2 : kl_M) (u : Int64), ((fun r w1 => w = w1 ∧ mt_tab t nT ∧ ∃ p, p < 24 ∧ T p = t ∧ nI (mt_less T C t (C (4 * p))) = k ∧ r = C (4 * p)) : Int32 → kl_M → Prop) v w2 ∧ u = v.toInt64 ∧ w1 47 = some (kl_aL G 1 (vp_updL ol 0 u)) ∧ ∀ j : Nat, j ≠ 47 → w1 j = w2 j) ∨ ∃ E : String, ((fun E w1 => (E = "java/lang/IllegalArgumentException" ∧ w1 = w ∧ ¬ mt_tab t nT) ∨ (E = "java/lang/IndexOutOfBoundsException" ∧ w1 = w ∧ mt_tab t nT ∧ ∀ p, p < 24 → ¬ (T p = t ∧ nI (mt_less T C t (C (4 * p))) = k))) : String → kl_M → Prop) E w1 ∧ ((E = "java/lang/IllegalArgumentException" ∧ r = nI 1) ∨ (E = "java/lang/IndexOutOfBoundsException" ∧ r = nI 2))) : Int32 → kl_M → Prop) r w1) (hX : (fun (w : kl_M) => ((fun r w1 => (¬ mt_tab t nT ∧ w1 26 = some (.inr (5, [.int (nI 1), .int rs, .int (nI nT), .ref (B + 27), .int (nI n), .ref (B + 28), .ref (B + 29), .int (nI on), .ref (B + 30), .ref (B + 31), .ref (B + 32), .int (nI nL), .ref (B + 33), .ref (B + 34), .ref (B + 35), .ref (B + 36), .int (nI nS), .ref (B + 37), .ref (B + 38), .int (nI nC), .ref (B + 39), .ref (B + 40), .ref (B + 41), .int (nI nW), .ref (B + 42), .int hi, .ref (B + 43), .int (nI nM), .ref (B + 44), .ref (B + 45), .ref (B + 46)])) ∧ ∀ j : Nat, j ≠ 26 → w1 j = w j) ∨ (mt_tab t nT ∧ (∀ a, a < 24 → ¬ (md_T n O a = t ∧ nI (mt_less (md_T n O) D t (D (4 * a))) = k)) ∧ w1 26 = some (.inr (5, [.int (nI 2), .int rs, .int (nI nT), .ref (B + 27), .int (nI n), .ref (B + 28), .ref (B + 29), .int (nI on), .ref (B + 30), .ref (B + 31), .ref (B + 32), .int (nI nL), .ref (B + 33), .ref (B + 34), .ref (B + 35), .ref (B + 36), .int (nI nS), .ref (B + 37), .ref (B + 38), .int (nI nC), .ref (B + 39), .ref (B + 40), .ref (B + 41), .int (nI nW), .ref (B + 42), .int hi, .ref (B + 43), .int (nI nM), .ref (B + 44), .ref (B + 45), .ref (B + 46)])) ∧ ∀ j : Nat, j ≠ 26 → w1 j = w j) ∨ (mt_tab t nT ∧ (∃ p, p < 24 ∧ md_T n O p = t ∧ nI (mt_less (md_T n O) D t (D (4 * p))) = k ∧ r = D (4 * p)) ∧ w1 26 = some (.inr (5, [.int (nI 0), .int rs, .int (nI nT), .ref (B + 27), .int (nI n), .ref (B + 28), .ref (B + 29), .int (nI on), .ref (B + 30), .ref (B + 31), .ref (B + 32), .int (nI nL), .ref (B + 33), .ref (B + 34), .ref (B + 35), .ref (B + 36), .int (nI nS), .ref (B + 37), .ref (B + 38), .int (nI nC), .ref (B + 39), .ref (B + 40), .ref (B + 41), .int (nI nW), .ref (B + 42), .int hi, .ref (B + 43), .int (nI nM), .ref (B + 44), .ref (B + 45), .ref (B + 46)])) ∧ ∀ j : Nat, j ≠ 26 → w1 j = w j)) : Int32 → kl_M → Prop)) w1 b w2) : ∃ ol3, mr_I G B w2 r ol3 ∧ (r = 0 → ol3 0 = b.toInt64) := by
  have hc := hJ
  obtain ⟨-, -, -, -, ⟨⟨m1, m2, m3, m4, m5, m6⟩, hcn, hwt⟩, hRC, ⟨hE0, htb, hk0, hO, hn24⟩, hW, hM⟩ := hc
  have hles : ∀ {j : Nat} {x : Int32}, j < nT → mt_less T C (nI j) x = mt_less (md_T n O) D (nI j) x := fun hj => mr_less hE0 m1 hJ.h0 hj
  rcases hL with ⟨rfl, v, w3, u, ⟨hw3, hok, p, a1, a2, a3, hv⟩, rfl, f47, fr47⟩ | ⟨E, hx, hE⟩
  · have hok2 := hok
    obtain ⟨tj, htj, rfl⟩ := hok
    obtain ⟨f, hf⟩ := hE0
    rcases hX with ⟨z, -⟩ | ⟨-, z, -⟩ | ⟨-, ⟨p2, b1, b2, b3, hb⟩, f26, fr⟩
    · exact absurd hok2 z
    · obtain ⟨c1, c2⟩ := hf.at m1 a1 htj a2
      exact absurd ⟨c2, by rw [hf.key m1 hJ.h0 a1 htj a2, ← hles htj]; exact a3⟩ (z _ c1)
    subst hw3
    have hJ1 := hJ.out f47 fr47
    have hMF1 := hMF.mv (w1 := w1) (fun j h1 h2 => fr47 j (by omega))
    have e : b = v := by
      obtain ⟨p3, c1, c2, c3⟩ := hf.from m1 b1 htj b2
      have hky := hf.key m1 hJ.h0 c1 htj c2
      rw [c3] at hky
      rw [hky, ← hles htj] at b3
      rw [hb, hv, hky]
      exact (mr_rank a1 a2 rfl c1 c2 rfl (a3.trans b3.symm)).symm
    exact ⟨_, mr_J.kp hJ1 hMF1 f26 (md_sm.rf hMF1 (fun j h1 h2 => fr j (by omega))) (fun j a _ _ _ _ _ _ => fr j a), fun _ => (by rw [pk_uLs, e])⟩
  · rcases hx with ⟨hE1, hw1, hno⟩ | ⟨hE1, hw1, hok, hno⟩
    · obtain rfl : r = nI 1 := by rcases hE with ⟨e, e2⟩ | ⟨e, e2⟩ <;> first | exact e2 | exact absurd (e.symm.trans hE1) (by decide)
      subst hw1
      rcases hX with ⟨-, f26, fr⟩ | ⟨z, -⟩ | ⟨z, -⟩
      · exact ⟨_, mr_J.kp hJ hMF f26 (md_sm.rf hMF (fun j h1 h2 => fr j (by omega))) (fun j a _ _ _ _ _ _ => fr j a), fun z => absurd z (by decide)⟩
      · exact absurd z hno
      · exact absurd z hno
    · obtain rfl : r = nI 2 := by rcases hE with ⟨e, e2⟩ | ⟨e, e2⟩ <;> first | exact e2 | exact absurd (e.symm.trans hE1) (by decide)
      subst hw1
      rcases hX with ⟨z, -⟩ | ⟨-, -, f26, fr⟩ | ⟨-, ⟨p2, b1, b2, b3, -⟩, -⟩
      · exact absurd hok z
      · exact ⟨_, mr_J.kp hJ hMF f26 (md_sm.rf hMF (fun j h1 h2 => fr j (by omega))) (fun j a _ _ _ _ _ _ => fr j a), fun z => absurd z (by decide)⟩
      · exact absurd (by obtain ⟨tj, htj, rfl⟩ := hok; obtain ⟨f, hf⟩ := hE0; obtain ⟨p3, c1, c2, c3⟩ := hf.from m1 b1 htj b2; have hky := hf.key m1 hJ.h0 c1 htj c2; rw [c3] at hky; rw [hky, ← hles htj] at b3; exact hno p3 c1 ⟨c2, b3⟩) not_false

set_option maxHeartbeats 2000000 in
theorem op_referring (l9 x : Int32) {r b : Int32} (hJ : mr_J G B w ec ol nT nL nS nC nW nM n rs cn wt T C mT mC lf sf cf la lch lco lpa lwy sa stb sco ca cwa cpa ctb cln cwd ccol O D kR kO kD cw) (hMF : md_KF G B w nT nL nS nC nW nM n on ec rs hi cn wt O D oO oD gn lch lco lpa lwy stb sco ctb cln cw pl kR kO kD) (hL : ((fun r w1 => (r = nI 0 ∧ ∃ (v : Int32) (w2 : kl_M) (u : Int64), ((fun r w1 => w = w1 ∧ ∃ j t0, j < nL ∧ l9 = nI j ∧ t0 < 24 ∧ T t0 = lpa j ∧ C (4 * t0) = x ∧ r = nI (mt_ct (fun p => mt_ref T C (lch j) (lco j) (lpa j) p t0) 24)) : Int32 → kl_M → Prop) v w2 ∧ u = v.toInt64 ∧ w1 47 = some (kl_aL G 1 (vp_updL ol 0 u)) ∧ ∀ j : Nat, j ≠ 47 → w1 j = w2 j) ∨ ∃ E : String, ((fun E w1 => (E = "java/lang/IllegalArgumentException" ∧ w1 = w ∧ ¬ mt_tab l9 nL) ∨ (E = "java/util/NoSuchElementException" ∧ w1 = w ∧ ∃ j, j < nL ∧ l9 = nI j ∧ ¬ mt_has T C (lpa j) x)) : String → kl_M → Prop) E w1 ∧ ((E = "java/lang/IllegalArgumentException" ∧ r = nI 1) ∨ (E = "java/util/NoSuchElementException" ∧ r = nI 2))) : Int32 → kl_M → Prop) r w1) (hX : (fun (w : kl_M) => ((fun r w1 => (¬ mt_tab l9 nL ∧ w1 26 = some (.inr (5, [.int (nI 1), .int rs, .int (nI nT), .ref (B + 27), .int (nI n), .ref (B + 28), .ref (B + 29), .int (nI on), .ref (B + 30), .ref (B + 31), .ref (B + 32), .int (nI nL), .ref (B + 33), .ref (B + 34), .ref (B + 35), .ref (B + 36), .int (nI nS), .ref (B + 37), .ref (B + 38), .int (nI nC), .ref (B + 39), .ref (B + 40), .ref (B + 41), .int (nI nW), .ref (B + 42), .int hi, .ref (B + 43), .int (nI nM), .ref (B + 44), .ref (B + 45), .ref (B + 46)])) ∧ ∀ j : Nat, j ≠ 26 → w1 j = w j) ∨ ((∃ j, j < nL ∧ l9 = nI j ∧ (x = 0 ∨ ¬ mt_has (md_T n O) D (lpa j) x)) ∧ w1 26 = some (.inr (5, [.int (nI 2), .int rs, .int (nI nT), .ref (B + 27), .int (nI n), .ref (B + 28), .ref (B + 29), .int (nI on), .ref (B + 30), .ref (B + 31), .ref (B + 32), .int (nI nL), .ref (B + 33), .ref (B + 34), .ref (B + 35), .ref (B + 36), .int (nI nS), .ref (B + 37), .ref (B + 38), .int (nI nC), .ref (B + 39), .ref (B + 40), .ref (B + 41), .int (nI nW), .ref (B + 42), .int hi, .ref (B + 43), .int (nI nM), .ref (B + 44), .ref (B + 45), .ref (B + 46)])) ∧ ∀ j : Nat, j ≠ 26 → w1 j = w j) ∨ ((∃ j, j < nL ∧ l9 = nI j ∧ x ≠ 0 ∧ mt_has (md_T n O) D (lpa j) x ∧ r = nI (mt_ct (fun a => md_T n O a = lch j ∧ D (4 * a + lco j) = x) 24)) ∧ w1 26 = some (.inr (5, [.int (nI 0), .int rs, .int (nI nT), .ref (B + 27), .int (nI n), .ref (B + 28), .ref (B + 29), .int (nI on), .ref (B + 30), .ref (B + 31), .ref (B + 32), .int (nI nL), .ref (B + 33), .ref (B + 34), .ref (B + 35), .ref (B + 36), .int (nI nS), .ref (B + 37), .ref (B + 38), .int (nI nC), .ref (B + 39), .ref (B + 40), .ref (B + 41), .int (nI nW), .ref (B + 42), .int hi, .ref (B + 43), .int (nI nM), .ref (B + 44), .ref (B + 45), .ref (B + 46)])) ∧ ∀ j : Nat, j ≠ 26 → w1 j = w j)) : Int32 → kl_M → Prop)) w1 b w2) : ∃ ol3, mr_I G B w2 r ol3 ∧ (r = 0 → ol3 0 = b.toInt64) := by
  have hc := hJ
  obtain ⟨-, -, -, -, ⟨⟨m1, m2, m3, m4, m5, m6⟩, hcn, hwt⟩, hRC, ⟨hE0, htb, hk0, hO, hn24⟩, hW, hM⟩ := hc
  have same : ∀ {j j2 : Nat}, j < nL → j2 < nL → l9 = nI j → l9 = nI j2 → j2 = j := fun h1 h2 e1 e2 => (nI_eq (by omega) (by omega)).mp (e2.symm.trans e1)
  have hhas : ∀ {j : Nat}, j < nL → (mt_has T C (lpa j) x ↔ x ≠ 0 ∧ mt_has (md_T n O) D (lpa j) x) := fun {j} hj => by
    obtain ⟨a, b, h1, h2, h3, h4, h5⟩ := hRC.1.1 j hj
    rw [h4, ← mr_has hE0 m1 hJ.h0 h2]
    refine ⟨fun z => ⟨?_, z⟩, fun z => z.2⟩
    obtain ⟨p, c1, c2, c3⟩ := z
    rw [← c3]; exact hk0 p c1 (by rw [c2]; exact mr_nt m1 h2)
  rcases hL with ⟨rfl, v, w3, u, ⟨hw3, j, t0, hj, hlj, a1, a2, a3, hv⟩, rfl, f47, fr47⟩ | ⟨E, hx, hE⟩
  · have hxh := (hhas hj).mp ⟨t0, a1, a2, a3⟩
    rcases hX with ⟨z, -⟩ | ⟨⟨j2, hj2, hlj2, z⟩, -⟩ | ⟨⟨j2, hj2, hlj2, b1, b2, hb⟩, f26, fr⟩
    · exact absurd ⟨j, hj, hlj⟩ z
    · have e2 := same hj hj2 hlj hlj2
      subst e2
      exact z.elim (fun z => absurd z hxh.1) (fun z => absurd hxh.2 z)
    have e2 := same hj hj2 hlj hlj2
    subst e2
    subst hw3
    have hJ1 := hJ.out f47 fr47
    have hMF1 := hMF.mv (w1 := w1) (fun j h1 h2 => fr47 j (by omega))
    have e : b = v := by
      rw [hb, hv]
      refine congrArg nI ?_
      obtain ⟨a, b9, h1, h2, h3, h4, h5⟩ := hRC.1.1 j2 hj2
      have e3 : mt_ct (fun p => mt_ref T C (lch j2) (lco j2) (lpa j2) p t0) 24 = mt_ct (fun p => T p = lch j2 ∧ C (4 * p + lco j2) = x) 24 := mt_ct_cong (fun p _ => ⟨fun z => ⟨z.1, by rw [← z.2.2.2]; exact a3⟩, fun z => ⟨z.1, by rw [z.2]; exact hxh.1, a2, by rw [z.2]; exact a3⟩⟩)
      rw [e3]
      obtain ⟨f, hf⟩ := hE0
      refine (mr_ct hf (fun p hp z => by rw [z.1, h3]; exact mr_nt m1 h1) (fun q hq z => by rw [z.1, h3]; exact mr_nt m1 h1) (fun p hp hT => ?_)).symm
      obtain ⟨d1, d2, d3⟩ := hf.1 p hp hT
      rw [d2]
      constructor
      · rintro ⟨y1, y2⟩
        exact ⟨y1, by rw [d3 a _ h1 (y1.trans h3) h5]; exact y2⟩
      · rintro ⟨y1, y2⟩
        rw [d3 a _ h1 (y1.trans h3) h5] at y2
        exact ⟨y1, y2⟩
    exact ⟨_, mr_J.kp hJ1 hMF1 f26 (md_sm.rf hMF1 (fun j h1 h2 => fr j (by omega))) (fun j a _ _ _ _ _ _ => fr j a), fun _ => (by rw [pk_uLs, e])⟩
  · rcases hx with ⟨hE1, hw1, hno⟩ | ⟨hE1, hw1, j, hj, hlj, hno⟩
    · obtain rfl : r = nI 1 := by rcases hE with ⟨e, e2⟩ | ⟨e, e2⟩ <;> first | exact e2 | exact absurd (e.symm.trans hE1) (by decide)
      subst hw1
      rcases hX with ⟨-, f26, fr⟩ | ⟨⟨j2, hj2, hlj2, -⟩, -⟩ | ⟨⟨j2, hj2, hlj2, -⟩, -⟩
      · exact ⟨_, mr_J.kp hJ hMF f26 (md_sm.rf hMF (fun j h1 h2 => fr j (by omega))) (fun j a _ _ _ _ _ _ => fr j a), fun z => absurd z (by decide)⟩
      · exact absurd ⟨j2, hj2, hlj2⟩ hno
      · exact absurd ⟨j2, hj2, hlj2⟩ hno
    · obtain rfl : r = nI 2 := by rcases hE with ⟨e, e2⟩ | ⟨e, e2⟩ <;> first | exact e2 | exact absurd (e.symm.trans hE1) (by decide)
      subst hw1
      rcases hX with ⟨z, -⟩ | ⟨-, f26, fr⟩ | ⟨⟨j2, hj2, hlj2, b1, b2, -⟩, -⟩
      · exact absurd ⟨j, hj, hlj⟩ z
      · exact ⟨_, mr_J.kp hJ hMF f26 (md_sm.rf hMF (fun j h1 h2 => fr j (by omega))) (fun j a _ _ _ _ _ _ => fr j a), fun z => absurd z (by decide)⟩
      · have e2 := same hj hj2 hlj hlj2; subst e2; exact absurd ((hhas hj2).mpr ⟨b1, b2⟩) hno

end OPS
