/-! Statements: what each call does to ledger and model together. -/
section OPS2
variable {G : kl_G} {B : Nat} {w w1 w2 : kl_M} {ec ec2 rs2 : Int32} {ol ol2 : Nat → Int64} {nT nL nS nC nW nM n : Nat} {rs : Int32} {cn wt : Nat → Nat} {T C : Nat → Int32} {mT mC : Nat → Nat → Int32} {lf sf cf : Nat → Option Nat} {la : Nat → Nat} {lch : Nat → Int32} {lco : Nat → Nat} {lpa lwy : Nat → Int32} {sa : Nat → Nat} {stb : Nat → Int32} {sco ca cwa cpa : Nat → Nat} {ctb : Nat → Int32} {cln : Nat → Nat} {cwd : Nat → Nat → Nat} {ccol : Nat → Nat} {O D : Nat → Int32} {kR : Nat → Nat} {kO kD : Nat → Int32} {cw : Nat → Nat} {on on2 : Nat} {hi hi2 : Int32} {oO oD gn pl : Nat → Int32}
set_option maxHeartbeats 2000000 in
theorem op_insert (t a b c d : Int32) {r : Int32} (hJ : mr_J G B w ec ol nT nL nS nC nW nM n rs cn wt T C mT mC lf sf cf la lch lco lpa lwy sa stb sco ca cwa cpa ctb cln cwd ccol O D kR kO kD cw) (hMF : md_KF G B w nT nL nS nC nW nM n on ec rs hi cn wt O D oO oD gn lch lco lpa lwy stb sco ctb cln cw pl kR kO kD) (hL : ((fun r w1 => (r = nI 0 ∧ ((fun w1 => (mt_tab t nT ∧ a ≠ 0) ∧ ∃ p, p < 24 ∧ T p = -1 ∧ mt_st (-1) (mt_why (upd T p t) (mt_ins C p a b c d) nT nS stb sco nL lch lco lpa nC ctb cwd cln) (nI 0) ∧ w1 0 = some (.inr (4, [.ref (B + 1), .int (nI nT), .ref (B + 2), .int (nI nL), .ref (B + 3), .int (nI nS), .ref (B + 4), .int (nI nC), .ref (B + 5), .int (nI nW), .ref (B + 6), .ref (B + 9), .ref (B + 12), .int (nI nM), .ref (B + 13), .int rs])) ∧ kl_RU G B w1 nL lf la lch lco lpa lwy nS sf sa stb sco nC cf ca cwa cpa ctb cln cwd ccol ∧ w1 7 = some (kl_aI G 24 (upd T p t)) ∧ w1 8 = some (kl_aI G 96 (mt_ins C p a b c d)) ∧ kl_dr G w1 ∧ ∀ j : Nat, j < 48 → j ≠ 0 → j ≠ 7 → j ≠ 8 → j ≠ 10 → j ≠ 11 → w1 j = w j) : kl_M → Prop) w1) ∨ ∃ E : String, ((fun E w1 => (E = "java/lang/IllegalArgumentException" ∧ w1 = w ∧ ¬ (mt_tab t nT ∧ a ≠ 0)) ∨ (E = "java/util/NoSuchElementException" ∧ w1 = w ∧ (mt_tab t nT ∧ a ≠ 0) ∧ ∀ p, p < 24 → ¬ T p = -1) ∨ (E = "java/lang/IllegalStateException" ∧ (mt_tab t nT ∧ a ≠ 0) ∧ ∃ p, p < 24 ∧ T p = -1 ∧ ∃ r, r ≠ 0 ∧ mt_st (-1) (mt_why (upd T p t) (mt_ins C p a b c d) nT nS stb sco nL lch lco lpa nC ctb cwd cln) r ∧ w1 0 = some (.inr (4, [.ref (B + 1), .int (nI nT), .ref (B + 2), .int (nI nL), .ref (B + 3), .int (nI nS), .ref (B + 4), .int (nI nC), .ref (B + 5), .int (nI nW), .ref (B + 6), .ref (B + 9), .ref (B + 12), .int (nI nM), .ref (B + 13), .int r])) ∧ kl_RU G B w1 nL lf la lch lco lpa lwy nS sf sa stb sco nC cf ca cwa cpa ctb cln cwd ccol ∧ w1 7 = some (kl_aI G 24 T) ∧ w1 8 = some (kl_aI G 96 C) ∧ kl_dr G w1 ∧ ∀ j : Nat, j < 48 → j ≠ 0 → j ≠ 7 → j ≠ 8 → j ≠ 10 → j ≠ 11 → w1 j = w j)) : String → kl_M → Prop) E w1 ∧ ((E = "java/lang/IllegalArgumentException" ∧ r = nI 1) ∨ (E = "java/util/NoSuchElementException" ∧ r = nI 2) ∨ (E = "java/lang/IllegalStateException" ∧ r = nI 3))) : Int32 → kl_M → Prop) r w1) (hX : (fun (w : kl_M) => ((fun w1 => (¬ (mt_tab t nT ∧ a ≠ 0) ∧ w1 26 = some (.inr (5, [.int (nI 1), .int rs, .int (nI nT), .ref (B + 27), .int (nI n), .ref (B + 28), .ref (B + 29), .int (nI on), .ref (B + 30), .ref (B + 31), .ref (B + 32), .int (nI nL), .ref (B + 33), .ref (B + 34), .ref (B + 35), .ref (B + 36), .int (nI nS), .ref (B + 37), .ref (B + 38), .int (nI nC), .ref (B + 39), .ref (B + 40), .ref (B + 41), .int (nI nW), .ref (B + 42), .int hi, .ref (B + 43), .int (nI nM), .ref (B + 44), .ref (B + 45), .ref (B + 46)])) ∧ md_sm G w1 n O D ∧ ∀ j : Nat, j ≠ 26 → j ≠ 28 → j ≠ 29 → j ≠ 30 → j ≠ 31 → j ≠ 32 → j ≠ 43 → w1 j = w j) ∨ ((mt_tab t nT ∧ a ≠ 0) ∧ ¬ n < 24 ∧ w1 26 = some (.inr (5, [.int (nI 2), .int rs, .int (nI nT), .ref (B + 27), .int (nI n), .ref (B + 28), .ref (B + 29), .int (nI on), .ref (B + 30), .ref (B + 31), .ref (B + 32), .int (nI nL), .ref (B + 33), .ref (B + 34), .ref (B + 35), .ref (B + 36), .int (nI nS), .ref (B + 37), .ref (B + 38), .int (nI nC), .ref (B + 39), .ref (B + 40), .ref (B + 41), .int (nI nW), .ref (B + 42), .int hi, .ref (B + 43), .int (nI nM), .ref (B + 44), .ref (B + 45), .ref (B + 46)])) ∧ md_sm G w1 n O D ∧ ∀ j : Nat, j ≠ 26 → j ≠ 28 → j ≠ 29 → j ≠ 30 → j ≠ 31 → j ≠ 32 → j ≠ 43 → w1 j = w j) ∨ ((mt_tab t nT ∧ a ≠ 0) ∧ n < 24 ∧ ∃ tj, tj < nT ∧ t = nI tj ∧ md_sw 0 (mt_why (md_T (n + 1) (upd O n t)) (md_ins D n (cn tj) a b c d) nT nS stb sco nL lch lco lpa nC ctb (fun j i => cw (10 * j + i)) cln) (nI 0) ∧ (∃ h2 on2, w1 26 = some (.inr (5, [.int (nI 0), .int rs, .int (nI nT), .ref (B + 27), .int (nI (n + 1)), .ref (B + 28), .ref (B + 29), .int (nI on2), .ref (B + 30), .ref (B + 31), .ref (B + 32), .int (nI nL), .ref (B + 33), .ref (B + 34), .ref (B + 35), .ref (B + 36), .int (nI nS), .ref (B + 37), .ref (B + 38), .int (nI nC), .ref (B + 39), .ref (B + 40), .ref (B + 41), .int (nI nW), .ref (B + 42), .int h2, .ref (B + 43), .int (nI nM), .ref (B + 44), .ref (B + 45), .ref (B + 46)]))) ∧ w1 28 = some (kl_aI G 24 (upd O n t)) ∧ w1 29 = some (kl_aI G 96 (md_ins D n (cn tj) a b c d)) ∧ md_jk G w1 ∧ ∀ j : Nat, j ≠ 26 → j ≠ 28 → j ≠ 29 → j ≠ 30 → j ≠ 31 → j ≠ 32 → j ≠ 43 → w1 j = w j) ∨ ((mt_tab t nT ∧ a ≠ 0) ∧ n < 24 ∧ ∃ tj, tj < nT ∧ t = nI tj ∧ ∃ y2, y2 ≠ 0 ∧ md_sw 0 (mt_why (md_T (n + 1) (upd O n t)) (md_ins D n (cn tj) a b c d) nT nS stb sco nL lch lco lpa nC ctb (fun j i => cw (10 * j + i)) cln) y2 ∧ (∃ h2 on2, w1 26 = some (.inr (5, [.int (nI 3), .int y2, .int (nI nT), .ref (B + 27), .int (nI n), .ref (B + 28), .ref (B + 29), .int (nI on2), .ref (B + 30), .ref (B + 31), .ref (B + 32), .int (nI nL), .ref (B + 33), .ref (B + 34), .ref (B + 35), .ref (B + 36), .int (nI nS), .ref (B + 37), .ref (B + 38), .int (nI nC), .ref (B + 39), .ref (B + 40), .ref (B + 41), .int (nI nW), .ref (B + 42), .int h2, .ref (B + 43), .int (nI nM), .ref (B + 44), .ref (B + 45), .ref (B + 46)]))) ∧ md_sm G w1 n O D ∧ ∀ j : Nat, j ≠ 26 → j ≠ 28 → j ≠ 29 → j ≠ 30 → j ≠ 31 → j ≠ 32 → j ≠ 43 → w1 j = w j)) : kl_M → Prop)) w1 w2) : ∃ ol3, mr_I G B w2 r ol3 := by
  have hc := hJ
  obtain ⟨-, -, -, -, ⟨⟨m1, m2, m3, m4, m5, m6⟩, hcn, hwt⟩, hRC, hRW, hW, hM⟩ := hc
  obtain ⟨⟨dT, dC, gg, k0, k1, k2, k3, k4, k5, k6, k7, k8, k9, k10, k11, k12, k13, k14, k15, k16, k17, k18, k19, k20, k21, k22, k23, k24, k25⟩, -, -, h47, -⟩ := id hJ
  rcases hL with ⟨rfl, hok, p, hp, hfree, hst, h0, hRU1, h7, h8, hdr, frl⟩ | ⟨E, hx, hE⟩
  · rcases hX with ⟨z, -⟩ | ⟨-, z, -⟩ | ⟨hok2, hn9, tj, htj, htt, hsw, ⟨hh9, on9, f26⟩, f28, f29, hjk, fx⟩ | ⟨hok2, hn9, tj, htj, htt, y2, hy0, hsw, ⟨hh9, on9, f26⟩, hs, fx⟩
    · exact absurd hok z
    · exact absurd hfree (hRW.full.mpr (by have := hRW.2.2.2.2; omega) p hp)
    · have fx9 : ∀ j : Nat, j < 26 → w2 j = w1 j := fun j hj => fx j (by omega) (by omega) (by omega) (by omega) (by omega) (by omega) (by omega)
      have f47w : w1 47 = some (kl_aL G 1 ol) := (frl 47 (by decide) (by decide) (by decide) (by decide) (by decide) (by decide)).trans h47
      subst htt
      have hRW2 := hRW.ins m1 hcn (b := b) (c1 := c) (d := d) htj hok.2 hp hfree hn9
      exact ⟨_, mr_J.stm hJ hMF ((fx9 0 (by decide)).trans h0) ((fx9 7 (by decide)).trans h7) ((fx9 8 (by decide)).trans h8) (hdr.mv fx9) ⟨_, (fx9 13 (by decide)).trans ((frl 13 (by decide) (by decide) (by decide) (by decide) (by decide) (by decide)).trans k13)⟩ f26 f28 f29 hjk (hRU1.ext (fun j e h1 h2 => (fx j (by omega) (by omega) (by omega) (by omega) (by omega) (by omega) (by omega)).trans h2)) ((fx 47 (by decide) (by decide) (by decide) (by decide) (by decide) (by decide) (by decide)).trans f47w) (fun j hj n0 n7 n8 n10 n11 n13 n26 n28 n29 n30 n31 n32 n43 => (fx j n26 n28 n29 n30 n31 n32 n43).trans (frl j (by omega) n0 n7 n8 n10 n11)) hRW2 (mr_st_0 hst)⟩
    · subst htt
      have hRW2 := hRW.ins m1 hcn (b := b) (c1 := c) (d := d) htj hok.2 hp hfree hn9
      exact absurd ((hJ.det hRW2 (Or.inl ⟨rfl, rfl⟩) hst hsw).symm.trans nI_0) hy0
  · rcases hx with ⟨hE1, hw1, hno⟩ | ⟨hE1, hw1, hok, hno⟩ | ⟨hE1, hok, p, hp, hfree, r9, hr0, hst, h0, hRU1, h7, h8, hdr, frl⟩
    · obtain rfl : r = nI 1 := by rcases hE with ⟨e, e2⟩ | ⟨e, e2⟩ | ⟨e, e2⟩ <;> first | exact e2 | exact absurd (e.symm.trans hE1) (by decide)
      subst hw1
      rcases hX with ⟨-, f26, hs, fr⟩ | ⟨z, -⟩ | ⟨z, -⟩ | ⟨z, -⟩
      · exact ⟨_, mr_J.kp hJ hMF f26 hs fr⟩
      · exact absurd z hno
      · exact absurd z hno
      · exact absurd z hno
    · obtain rfl : r = nI 2 := by rcases hE with ⟨e, e2⟩ | ⟨e, e2⟩ | ⟨e, e2⟩ <;> first | exact e2 | exact absurd (e.symm.trans hE1) (by decide)
      subst hw1
      have h24 := hRW.full.mp hno
      rcases hX with ⟨z, -⟩ | ⟨-, -, f26, hs, fr⟩ | ⟨-, z, -⟩ | ⟨-, z, -⟩
      · exact absurd hok z
      · exact ⟨_, mr_J.kp hJ hMF f26 hs fr⟩
      · omega
      · omega
    · obtain rfl : r = nI 3 := by rcases hE with ⟨e, e2⟩ | ⟨e, e2⟩ | ⟨e, e2⟩ <;> first | exact e2 | exact absurd (e.symm.trans hE1) (by decide)
      rcases hX with ⟨z, -⟩ | ⟨-, z, -⟩ | ⟨hok2, hn9, tj, htj, htt, hsw, ⟨hh9, on9, f26⟩, f28, f29, hjk, fx⟩ | ⟨hok2, hn9, tj, htj, htt, y2, hy0, hsw, ⟨hh9, on9, f26⟩, hs, fx⟩
      · exact absurd hok z
      · exact absurd hfree (hRW.full.mpr (by have := hRW.2.2.2.2; omega) p hp)
      · subst htt
        have hRW2 := hRW.ins m1 hcn (b := b) (c1 := c) (d := d) htj hok.2 hp hfree hn9
        exact absurd ((hJ.det hRW2 (Or.inl ⟨rfl, rfl⟩) hst hsw).trans nI_0) hr0
      · have fx9 : ∀ j : Nat, j < 26 → w2 j = w1 j := fun j hj => fx j (by omega) (by omega) (by omega) (by omega) (by omega) (by omega) (by omega)
        have f47w : w1 47 = some (kl_aL G 1 ol) := (frl 47 (by decide) (by decide) (by decide) (by decide) (by decide) (by decide)).trans h47
        subst htt
        have hRW2 := hRW.ins m1 hcn (b := b) (c1 := c) (d := d) htj hok.2 hp hfree hn9
        have e9 := hJ.det hRW2 (Or.inl ⟨rfl, rfl⟩) hst hsw
        subst e9
        exact ⟨_, mr_J.ref hJ hMF ((fx9 0 (by decide)).trans h0) (hdr.mv fx9) ⟨_, (fx9 13 (by decide)).trans ((frl 13 (by decide) (by decide) (by decide) (by decide) (by decide) (by decide)).trans k13)⟩ f26 hs (hRU1.ext (fun j e h1 h2 => (fx j (by omega) (by omega) (by omega) (by omega) (by omega) (by omega) (by omega)).trans h2)) ((fx 47 (by decide) (by decide) (by decide) (by decide) (by decide) (by decide) (by decide)).trans f47w) (fun j hj n0 n10 n11 n13 n26 n28 n29 n30 n31 n32 n43 => (fx j n26 n28 n29 n30 n31 n32 n43).trans (by by_cases e7 : j = 7; subst e7; exact h7.trans k7.symm; by_cases e8 : j = 8; subst e8; exact h8.trans k8.symm; exact frl j (by omega) n0 e7 e8 n10 n11))⟩
set_option maxHeartbeats 2000000 in
theorem op_delete (t c x : Int32) {r b : Int32} (hJ : mr_J G B w ec ol nT nL nS nC nW nM n rs cn wt T C mT mC lf sf cf la lch lco lpa lwy sa stb sco ca cwa cpa ctb cln cwd ccol O D kR kO kD cw) (hMF : md_KF G B w nT nL nS nC nW nM n on ec rs hi cn wt O D oO oD gn lch lco lpa lwy stb sco ctb cln cw pl kR kO kD) (hL : ((fun r w1 => (r = nI 0 ∧ ∃ (v : Int32) (w2 : kl_M) (u : Int64), ((fun r w1 => mt_col t c nT cn ∧ ∃ q g1 g2 d2 kp, q < 4 ∧ c = nI q ∧ (∀ p, p < 24 → mt_mark T C t q x p (g1 p)) ∧ mt_from T C nL lch lco lpa lwy g1 g2 ∧ (∀ l p, p < 24 → l < nL → mt_chk T C g2 lch lco lpa lwy l p) ∧ mt_wr 24 (fun l _ => l < nL) (fun l p => lwy l = nI 2 ∧ g2 p = 0 ∧ mt_lost T C g2 (lch l) (lco l) (lpa l) p) lco (fun _ => nI 0) C d2 ∧ mt_kp 24 (fun l _ => l < nL) (fun l p => lwy l = 0 ∧ g2 p = 0 ∧ mt_lost T C g2 (lch l) (lco l) (lpa l) p) kp ∧ r = nI (mt_gc 24 g2) ∧ mt_st kp (mt_why (mt_rm g2 T) d2 nT nS stb sco nL lch lco lpa nC ctb cwd cln) (nI 0) ∧ w1 0 = some (.inr (4, [.ref (B + 1), .int (nI nT), .ref (B + 2), .int (nI nL), .ref (B + 3), .int (nI nS), .ref (B + 4), .int (nI nC), .ref (B + 5), .int (nI nW), .ref (B + 6), .ref (B + 9), .ref (B + 12), .int (nI nM), .ref (B + 13), .int rs])) ∧ kl_RU G B w1 nL lf la lch lco lpa lwy nS sf sa stb sco nC cf ca cwa cpa ctb cln cwd ccol ∧ w1 7 = some (kl_aI G 24 (mt_rm g2 T)) ∧ w1 8 = some (kl_aI G 96 d2) ∧ kl_dr G w1 ∧ (∀ j : Nat, j < 48 → j ≠ 0 → j ≠ 7 → j ≠ 8 → j ≠ 10 → j ≠ 11 → j ≠ 13 → w1 j = w j) ∧ ∃ gg, w1 13 = some (kl_aZ G 24 gg)) : Int32 → kl_M → Prop) v w2 ∧ u = v.toInt64 ∧ w1 47 = some (kl_aL G 1 (vp_updL ol 0 u)) ∧ ∀ j : Nat, j ≠ 47 → w1 j = w2 j) ∨ ∃ E : String, ((fun E w1 => (E = "java/lang/IllegalArgumentException" ∧ w1 = w ∧ ¬ mt_col t c nT cn) ∨ (E = "java/lang/IllegalStateException" ∧ mt_col t c nT cn ∧ ∃ q g1 g2 d2 kp, q < 4 ∧ c = nI q ∧ (∀ p, p < 24 → mt_mark T C t q x p (g1 p)) ∧ mt_from T C nL lch lco lpa lwy g1 g2 ∧ (∀ l p, p < 24 → l < nL → mt_chk T C g2 lch lco lpa lwy l p) ∧ mt_wr 24 (fun l _ => l < nL) (fun l p => lwy l = nI 2 ∧ g2 p = 0 ∧ mt_lost T C g2 (lch l) (lco l) (lpa l) p) lco (fun _ => nI 0) C d2 ∧ mt_kp 24 (fun l _ => l < nL) (fun l p => lwy l = 0 ∧ g2 p = 0 ∧ mt_lost T C g2 (lch l) (lco l) (lpa l) p) kp ∧ (∃ gg, w1 13 = some (kl_aZ G 24 gg)) ∧ ∃ r, r ≠ 0 ∧ mt_st kp (mt_why (mt_rm g2 T) d2 nT nS stb sco nL lch lco lpa nC ctb cwd cln) r ∧ w1 0 = some (.inr (4, [.ref (B + 1), .int (nI nT), .ref (B + 2), .int (nI nL), .ref (B + 3), .int (nI nS), .ref (B + 4), .int (nI nC), .ref (B + 5), .int (nI nW), .ref (B + 6), .ref (B + 9), .ref (B + 12), .int (nI nM), .ref (B + 13), .int r])) ∧ kl_RU G B w1 nL lf la lch lco lpa lwy nS sf sa stb sco nC cf ca cwa cpa ctb cln cwd ccol ∧ w1 7 = some (kl_aI G 24 T) ∧ w1 8 = some (kl_aI G 96 C) ∧ kl_dr G w1 ∧ ∀ j : Nat, j < 48 → j ≠ 0 → j ≠ 7 → j ≠ 8 → j ≠ 10 → j ≠ 11 → j ≠ 13 → w1 j = w j)) : String → kl_M → Prop) E w1 ∧ ((E = "java/lang/IllegalArgumentException" ∧ r = nI 1) ∨ (E = "java/lang/IllegalStateException" ∧ r = nI 2))) : Int32 → kl_M → Prop) r w1) (hX : (fun (w : kl_M) => ((fun r w1 => (¬ mt_col t c nT cn ∧ w1 26 = some (.inr (5, [.int (nI 1), .int rs, .int (nI nT), .ref (B + 27), .int (nI n), .ref (B + 28), .ref (B + 29), .int (nI on), .ref (B + 30), .ref (B + 31), .ref (B + 32), .int (nI nL), .ref (B + 33), .ref (B + 34), .ref (B + 35), .ref (B + 36), .int (nI nS), .ref (B + 37), .ref (B + 38), .int (nI nC), .ref (B + 39), .ref (B + 40), .ref (B + 41), .int (nI nW), .ref (B + 42), .int hi, .ref (B + 43), .int (nI nM), .ref (B + 44), .ref (B + 45), .ref (B + 46)])) ∧ md_sm G w1 n O D ∧ ∀ j : Nat, j ≠ 26 → j ≠ 28 → j ≠ 29 → j ≠ 30 → j ≠ 31 → j ≠ 32 → j ≠ 43 → w1 j = w j) ∨ (mt_col t c nT cn ∧ ∃ (q : Nat) (g1 g2 sO sD D1 : Nat → Int32) (kp : Int32) (y : Nat) (O3 D3 : Nat → Int32), q < 4 ∧ c = nI q ∧ (∀ p, p < n → sO p = O p) ∧ (∀ k, k < 4 * n → sD k = D k) ∧ (∀ p, p < n → mt_mark O D t q x p (g1 p)) ∧ mt_from (md_T n sO) sD nL lch lco lpa lwy g1 g2 ∧ (∀ l p, p < 24 → l < nL → mt_chk (md_T n sO) sD g2 lch lco lpa lwy l p) ∧ mt_wr n (fun l _ => l < nL) (fun l p => lwy l = nI 2 ∧ g2 p = 0 ∧ mt_lost (md_T n sO) sD g2 (lch l) (lco l) (lpa l) p) lco (fun _ => nI 0) D D1 ∧ mt_kp n (fun l _ => l < nL) (fun l p => lwy l = 0 ∧ g2 p = 0 ∧ mt_lost (md_T n sO) sD g2 (lch l) (lco l) (lpa l) p) kp ∧ md_wy kp y ∧ md_cp g2 O D1 n O3 D3 ∧ r = nI (n - md_st g2 n) ∧ md_sw y (mt_why (md_T (md_st g2 n) O3) D3 nT nS stb sco nL lch lco lpa nC ctb (fun j i => cw (10 * j + i)) cln) (nI 0) ∧ (∃ h2 on2, w1 26 = some (.inr (5, [.int (nI 0), .int rs, .int (nI nT), .ref (B + 27), .int (nI (md_st g2 n)), .ref (B + 28), .ref (B + 29), .int (nI on2), .ref (B + 30), .ref (B + 31), .ref (B + 32), .int (nI nL), .ref (B + 33), .ref (B + 34), .ref (B + 35), .ref (B + 36), .int (nI nS), .ref (B + 37), .ref (B + 38), .int (nI nC), .ref (B + 39), .ref (B + 40), .ref (B + 41), .int (nI nW), .ref (B + 42), .int h2, .ref (B + 43), .int (nI nM), .ref (B + 44), .ref (B + 45), .ref (B + 46)]))) ∧ w1 28 = some (kl_aI G 24 O3) ∧ w1 29 = some (kl_aI G 96 D3) ∧ md_jk G w1 ∧ ∀ j : Nat, j ≠ 26 → j ≠ 28 → j ≠ 29 → j ≠ 30 → j ≠ 31 → j ≠ 32 → j ≠ 43 → w1 j = w j) ∨ (mt_col t c nT cn ∧ ∃ (q : Nat) (g1 g2 sO sD D1 : Nat → Int32) (kp : Int32) (y : Nat) (O3 D3 : Nat → Int32), q < 4 ∧ c = nI q ∧ (∀ p, p < n → sO p = O p) ∧ (∀ k, k < 4 * n → sD k = D k) ∧ (∀ p, p < n → mt_mark O D t q x p (g1 p)) ∧ mt_from (md_T n sO) sD nL lch lco lpa lwy g1 g2 ∧ (∀ l p, p < 24 → l < nL → mt_chk (md_T n sO) sD g2 lch lco lpa lwy l p) ∧ mt_wr n (fun l _ => l < nL) (fun l p => lwy l = nI 2 ∧ g2 p = 0 ∧ mt_lost (md_T n sO) sD g2 (lch l) (lco l) (lpa l) p) lco (fun _ => nI 0) D D1 ∧ mt_kp n (fun l _ => l < nL) (fun l p => lwy l = 0 ∧ g2 p = 0 ∧ mt_lost (md_T n sO) sD g2 (lch l) (lco l) (lpa l) p) kp ∧ md_wy kp y ∧ md_cp g2 O D1 n O3 D3 ∧ ∃ y2, y2 ≠ 0 ∧ md_sw y (mt_why (md_T (md_st g2 n) O3) D3 nT nS stb sco nL lch lco lpa nC ctb (fun j i => cw (10 * j + i)) cln) y2 ∧ (∃ h2 on2, w1 26 = some (.inr (5, [.int (nI 2), .int y2, .int (nI nT), .ref (B + 27), .int (nI n), .ref (B + 28), .ref (B + 29), .int (nI on2), .ref (B + 30), .ref (B + 31), .ref (B + 32), .int (nI nL), .ref (B + 33), .ref (B + 34), .ref (B + 35), .ref (B + 36), .int (nI nS), .ref (B + 37), .ref (B + 38), .int (nI nC), .ref (B + 39), .ref (B + 40), .ref (B + 41), .int (nI nW), .ref (B + 42), .int h2, .ref (B + 43), .int (nI nM), .ref (B + 44), .ref (B + 45), .ref (B + 46)]))) ∧ md_sm G w1 n O D ∧ ∀ j : Nat, j ≠ 26 → j ≠ 28 → j ≠ 29 → j ≠ 30 → j ≠ 31 → j ≠ 32 → j ≠ 43 → w1 j = w j)) : Int32 → kl_M → Prop)) w1 b w2) : ∃ ol3, mr_I G B w2 r ol3 ∧ (r = 0 → ol3 0 = b.toInt64) := by
  have hc := hJ
  obtain ⟨-, -, -, -, ⟨⟨m1, m2, m3, m4, m5, m6⟩, hcn, hwt⟩, hRC, hRW, hW, hM⟩ := hc
  obtain ⟨⟨dT, dC, gg, k0, k1, k2, k3, k4, k5, k6, k7, k8, k9, k10, k11, k12, k13, k14, k15, k16, k17, k18, k19, k20, k21, k22, k23, k24, k25⟩, -, -, h47, -⟩ := id hJ
  rcases hL with ⟨rfl, v, w3, u, ⟨hok, q, g1, g2, d2, kp, hq4, hcq, hmk, hfr, hchk, hwr, hkp, hv, hst, h0, hRU1, h7, h8, hdr, frl, hg13⟩, rfl, f47, fr47⟩ | ⟨E, hx, hE⟩
  · rcases hX with ⟨z, -⟩ | ⟨-, q2, k1, k2, sO, sD, D1, kp2, y, O3, D3, hq42, hcq2, hsO, hsD, hmk2, hfr2, hchk2, hwr2, hkp2, hwy, hcp, hb, hsw, ⟨hh9, on9, f26⟩, f28, f29, hjk, fx⟩ | ⟨-, q2, k1, k2, sO, sD, D1, kp2, y, O3, D3, hq42, hcq2, hsO, hsD, hmk2, hfr2, hchk2, hwr2, hkp2, hwy, hcp, y2, hy0, hsw, ⟨hh9, on9, f26⟩, hs, fx⟩
    · exact absurd hok z
    · have eq9 : q2 = q := (nI_eq (by omega) (by omega)).mp (hcq2.symm.trans hcq)
      subst eq9
      obtain ⟨tj, q3, htj, htt, hq3, hc3⟩ := hok
      have eq8 : q3 = q2 := (nI_eq (by have := hcn tj htj; omega) (by omega)).mp (hc3.symm.trans hcq)
      subst eq8
      subst htt
      obtain ⟨hRW2, hkk, hgc⟩ := hRW.del m1 hcn hRC.1.1 (fun j hj => (hRC.2.1.1 j hj).2.2.1.1) hsO hsD htj hq3 hmk hfr hchk hmk2 hfr2 hchk2 hwr hkp hwr2 hkp2 hcp
      subst hkk
      have fx9 : ∀ j : Nat, j < 26 → w2 j = w1 j := fun j hj => fx j (by omega) (by omega) (by omega) (by omega) (by omega) (by omega) (by omega)
      exact ⟨_, mr_J.stm hJ hMF ((fx9 0 (by decide)).trans ((fr47 0 (by decide)).trans h0)) ((fx9 7 (by decide)).trans ((fr47 7 (by decide)).trans h7)) ((fx9 8 (by decide)).trans ((fr47 8 (by decide)).trans h8)) (hdr.mv (fun j hj => (fx9 j hj).trans (fr47 j (by omega)))) (by obtain ⟨g9, h9⟩ := hg13; exact ⟨g9, (fx9 13 (by decide)).trans ((fr47 13 (by decide)).trans h9)⟩) f26 f28 f29 hjk (hRU1.ext (fun j e h1 h2 => (fx j (by omega) (by omega) (by omega) (by omega) (by omega) (by omega) (by omega)).trans ((fr47 j (by omega)).trans h2))) ((fx 47 (by decide) (by decide) (by decide) (by decide) (by decide) (by decide) (by decide)).trans f47) (fun j hj n0 n7 n8 n10 n11 n13 n26 n28 n29 n30 n31 n32 n43 => (fx j n26 n28 n29 n30 n31 n32 n43).trans ((fr47 j (by omega)).trans (frl j (by omega) n0 n7 n8 n10 n11 n13))) hRW2 (mr_st_0 hst), fun _ => by rw [pk_uLs, hv, hb, hgc]⟩
    · have eq9 : q2 = q := (nI_eq (by omega) (by omega)).mp (hcq2.symm.trans hcq)
      subst eq9
      obtain ⟨tj, q3, htj, htt, hq3, hc3⟩ := hok
      have eq8 : q3 = q2 := (nI_eq (by have := hcn tj htj; omega) (by omega)).mp (hc3.symm.trans hcq)
      subst eq8
      subst htt
      obtain ⟨hRW2, hkk, hgc⟩ := hRW.del m1 hcn hRC.1.1 (fun j hj => (hRC.2.1.1 j hj).2.2.1.1) hsO hsD htj hq3 hmk hfr hchk hmk2 hfr2 hchk2 hwr hkp hwr2 hkp2 hcp
      subst hkk
      exact absurd ((hJ.det hRW2 hwy hst hsw).symm.trans nI_0) hy0
  · rcases hx with ⟨hE1, hw1, hno⟩ | ⟨hE1, hok, q, g1, g2, d2, kp, hq4, hcq, hmk, hfr, hchk, hwr, hkp, hg13, r9, hr0, hst, h0, hRU1, h7, h8, hdr, frl⟩
    · obtain rfl : r = nI 1 := by rcases hE with ⟨e, e2⟩ | ⟨e, e2⟩ <;> first | exact e2 | exact absurd (e.symm.trans hE1) (by decide)
      subst hw1
      rcases hX with ⟨-, f26, hs, fr⟩ | ⟨z, -⟩ | ⟨z, -⟩
      · exact ⟨_, mr_J.kp hJ hMF f26 hs fr, fun z => absurd z (by decide)⟩
      · exact absurd z hno
      · exact absurd z hno
    · obtain rfl : r = nI 2 := by rcases hE with ⟨e, e2⟩ | ⟨e, e2⟩ <;> first | exact e2 | exact absurd (e.symm.trans hE1) (by decide)
      rcases hX with ⟨z, -⟩ | ⟨-, q2, k1, k2, sO, sD, D1, kp2, y, O3, D3, hq42, hcq2, hsO, hsD, hmk2, hfr2, hchk2, hwr2, hkp2, hwy, hcp, hb, hsw, ⟨hh9, on9, f26⟩, f28, f29, hjk, fx⟩ | ⟨-, q2, k1, k2, sO, sD, D1, kp2, y, O3, D3, hq42, hcq2, hsO, hsD, hmk2, hfr2, hchk2, hwr2, hkp2, hwy, hcp, y2, hy0, hsw, ⟨hh9, on9, f26⟩, hs, fx⟩
      · exact absurd hok z
      · have eq9 : q2 = q := (nI_eq (by omega) (by omega)).mp (hcq2.symm.trans hcq)
        subst eq9
        obtain ⟨tj, q3, htj, htt, hq3, hc3⟩ := hok
        have eq8 : q3 = q2 := (nI_eq (by have := hcn tj htj; omega) (by omega)).mp (hc3.symm.trans hcq)
        subst eq8
        subst htt
        obtain ⟨hRW2, hkk, hgc⟩ := hRW.del m1 hcn hRC.1.1 (fun j hj => (hRC.2.1.1 j hj).2.2.1.1) hsO hsD htj hq3 hmk hfr hchk hmk2 hfr2 hchk2 hwr hkp hwr2 hkp2 hcp
        subst hkk
        exact absurd ((hJ.det hRW2 hwy hst hsw).trans nI_0) hr0
      · have eq9 : q2 = q := (nI_eq (by omega) (by omega)).mp (hcq2.symm.trans hcq)
        subst eq9
        obtain ⟨tj, q3, htj, htt, hq3, hc3⟩ := hok
        have eq8 : q3 = q2 := (nI_eq (by have := hcn tj htj; omega) (by omega)).mp (hc3.symm.trans hcq)
        subst eq8
        subst htt
        obtain ⟨hRW2, hkk, hgc⟩ := hRW.del m1 hcn hRC.1.1 (fun j hj => (hRC.2.1.1 j hj).2.2.1.1) hsO hsD htj hq3 hmk hfr hchk hmk2 hfr2 hchk2 hwr hkp hwr2 hkp2 hcp
        subst hkk
        have e9 := hJ.det hRW2 hwy hst hsw
        subst e9
        have fx9 : ∀ j : Nat, j < 26 → w2 j = w1 j := fun j hj => fx j (by omega) (by omega) (by omega) (by omega) (by omega) (by omega) (by omega)
        have f47w : w1 47 = some (kl_aL G 1 ol) := (frl 47 (by decide) (by decide) (by decide) (by decide) (by decide) (by decide) (by decide)).trans h47
        exact ⟨_, mr_J.ref hJ hMF ((fx9 0 (by decide)).trans h0) (hdr.mv fx9) (by obtain ⟨g9, h9⟩ := hg13; exact ⟨g9, (fx9 13 (by decide)).trans h9⟩) f26 hs (hRU1.ext (fun j e h1 h2 => (fx j (by omega) (by omega) (by omega) (by omega) (by omega) (by omega) (by omega)).trans h2)) ((fx 47 (by decide) (by decide) (by decide) (by decide) (by decide) (by decide) (by decide)).trans f47w) (fun j hj n0 n10 n11 n13 n26 n28 n29 n30 n31 n32 n43 => (fx j n26 n28 n29 n30 n31 n32 n43).trans (by by_cases e7 : j = 7; subst e7; exact h7.trans k7.symm; by_cases e8 : j = 8; subst e8; exact h8.trans k8.symm; exact frl j (by omega) n0 e7 e8 n10 n11 n13)), fun z => absurd z (by decide)⟩
set_option maxHeartbeats 2000000 in
theorem op_shift (t c b9 : Int32) {r b : Int32} (hJ : mr_J G B w ec ol nT nL nS nC nW nM n rs cn wt T C mT mC lf sf cf la lch lco lpa lwy sa stb sco ca cwa cpa ctb cln cwd ccol O D kR kO kD cw) (hMF : md_KF G B w nT nL nS nC nW nM n on ec rs hi cn wt O D oO oD gn lch lco lpa lwy stb sco ctb cln cw pl kR kO kD) (hL : ((fun r w1 => (r = nI 0 ∧ ∃ (v : Int32) (w2 : kl_M) (u : Int64), ((fun r w1 => (mt_col t c nT cn ∧ c ≠ 0) ∧ r = nI (mt_ct (fun q => T q = t) 24) ∧ ∃ q, 0 < q ∧ q < 4 ∧ c = nI q ∧ mt_st (-1) (mt_why T (mt_shf T C t q b9) nT nS stb sco nL lch lco lpa nC ctb cwd cln) (nI 0) ∧ w1 0 = some (.inr (4, [.ref (B + 1), .int (nI nT), .ref (B + 2), .int (nI nL), .ref (B + 3), .int (nI nS), .ref (B + 4), .int (nI nC), .ref (B + 5), .int (nI nW), .ref (B + 6), .ref (B + 9), .ref (B + 12), .int (nI nM), .ref (B + 13), .int rs])) ∧ kl_RU G B w1 nL lf la lch lco lpa lwy nS sf sa stb sco nC cf ca cwa cpa ctb cln cwd ccol ∧ w1 7 = some (kl_aI G 24 T) ∧ w1 8 = some (kl_aI G 96 (mt_shf T C t q b9)) ∧ kl_dr G w1 ∧ ∀ j : Nat, j < 48 → j ≠ 0 → j ≠ 7 → j ≠ 8 → j ≠ 10 → j ≠ 11 → w1 j = w j) : Int32 → kl_M → Prop) v w2 ∧ u = v.toInt64 ∧ w1 47 = some (kl_aL G 1 (vp_updL ol 0 u)) ∧ ∀ j : Nat, j ≠ 47 → w1 j = w2 j) ∨ ∃ E : String, ((fun E w1 => (E = "java/lang/IllegalArgumentException" ∧ w1 = w ∧ ¬ (mt_col t c nT cn ∧ c ≠ 0)) ∨ (E = "java/lang/IllegalStateException" ∧ (mt_col t c nT cn ∧ c ≠ 0) ∧ ∃ q, 0 < q ∧ q < 4 ∧ c = nI q ∧ ∃ r, r ≠ 0 ∧ mt_st (-1) (mt_why T (mt_shf T C t q b9) nT nS stb sco nL lch lco lpa nC ctb cwd cln) r ∧ w1 0 = some (.inr (4, [.ref (B + 1), .int (nI nT), .ref (B + 2), .int (nI nL), .ref (B + 3), .int (nI nS), .ref (B + 4), .int (nI nC), .ref (B + 5), .int (nI nW), .ref (B + 6), .ref (B + 9), .ref (B + 12), .int (nI nM), .ref (B + 13), .int r])) ∧ kl_RU G B w1 nL lf la lch lco lpa lwy nS sf sa stb sco nC cf ca cwa cpa ctb cln cwd ccol ∧ w1 7 = some (kl_aI G 24 T) ∧ w1 8 = some (kl_aI G 96 C) ∧ kl_dr G w1 ∧ ∀ j : Nat, j < 48 → j ≠ 0 → j ≠ 7 → j ≠ 8 → j ≠ 10 → j ≠ 11 → w1 j = w j)) : String → kl_M → Prop) E w1 ∧ ((E = "java/lang/IllegalArgumentException" ∧ r = nI 1) ∨ (E = "java/lang/IllegalStateException" ∧ r = nI 2))) : Int32 → kl_M → Prop) r w1) (hX : (fun (w : kl_M) => ((fun r w1 => (¬ (mt_col t c nT cn ∧ c ≠ 0) ∧ w1 26 = some (.inr (5, [.int (nI 1), .int rs, .int (nI nT), .ref (B + 27), .int (nI n), .ref (B + 28), .ref (B + 29), .int (nI on), .ref (B + 30), .ref (B + 31), .ref (B + 32), .int (nI nL), .ref (B + 33), .ref (B + 34), .ref (B + 35), .ref (B + 36), .int (nI nS), .ref (B + 37), .ref (B + 38), .int (nI nC), .ref (B + 39), .ref (B + 40), .ref (B + 41), .int (nI nW), .ref (B + 42), .int hi, .ref (B + 43), .int (nI nM), .ref (B + 44), .ref (B + 45), .ref (B + 46)])) ∧ md_sm G w1 n O D ∧ ∀ j : Nat, j ≠ 26 → j ≠ 28 → j ≠ 29 → j ≠ 30 → j ≠ 31 → j ≠ 32 → j ≠ 43 → w1 j = w j) ∨ ((mt_col t c nT cn ∧ c ≠ 0) ∧ ∃ q, 0 < q ∧ q < 4 ∧ c = nI q ∧ r = nI (mt_ct (fun a => md_T n O a = t) 24) ∧ md_sw 0 (mt_why (md_T n O) (mt_shf (md_T n O) D t q b9) nT nS stb sco nL lch lco lpa nC ctb (fun j i => cw (10 * j + i)) cln) (nI 0) ∧ (∃ h2 on2, w1 26 = some (.inr (5, [.int (nI 0), .int rs, .int (nI nT), .ref (B + 27), .int (nI n), .ref (B + 28), .ref (B + 29), .int (nI on2), .ref (B + 30), .ref (B + 31), .ref (B + 32), .int (nI nL), .ref (B + 33), .ref (B + 34), .ref (B + 35), .ref (B + 36), .int (nI nS), .ref (B + 37), .ref (B + 38), .int (nI nC), .ref (B + 39), .ref (B + 40), .ref (B + 41), .int (nI nW), .ref (B + 42), .int h2, .ref (B + 43), .int (nI nM), .ref (B + 44), .ref (B + 45), .ref (B + 46)]))) ∧ w1 28 = some (kl_aI G 24 O) ∧ w1 29 = some (kl_aI G 96 (mt_shf (md_T n O) D t q b9)) ∧ md_jk G w1 ∧ ∀ j : Nat, j ≠ 26 → j ≠ 28 → j ≠ 29 → j ≠ 30 → j ≠ 31 → j ≠ 32 → j ≠ 43 → w1 j = w j) ∨ ((mt_col t c nT cn ∧ c ≠ 0) ∧ ∃ q, 0 < q ∧ q < 4 ∧ c = nI q ∧ ∃ y2, y2 ≠ 0 ∧ md_sw 0 (mt_why (md_T n O) (mt_shf (md_T n O) D t q b9) nT nS stb sco nL lch lco lpa nC ctb (fun j i => cw (10 * j + i)) cln) y2 ∧ (∃ h2 on2, w1 26 = some (.inr (5, [.int (nI 2), .int y2, .int (nI nT), .ref (B + 27), .int (nI n), .ref (B + 28), .ref (B + 29), .int (nI on2), .ref (B + 30), .ref (B + 31), .ref (B + 32), .int (nI nL), .ref (B + 33), .ref (B + 34), .ref (B + 35), .ref (B + 36), .int (nI nS), .ref (B + 37), .ref (B + 38), .int (nI nC), .ref (B + 39), .ref (B + 40), .ref (B + 41), .int (nI nW), .ref (B + 42), .int h2, .ref (B + 43), .int (nI nM), .ref (B + 44), .ref (B + 45), .ref (B + 46)]))) ∧ md_sm G w1 n O D ∧ ∀ j : Nat, j ≠ 26 → j ≠ 28 → j ≠ 29 → j ≠ 30 → j ≠ 31 → j ≠ 32 → j ≠ 43 → w1 j = w j)) : Int32 → kl_M → Prop)) w1 b w2) : ∃ ol3, mr_I G B w2 r ol3 ∧ (r = 0 → ol3 0 = b.toInt64) := by
  have hc := hJ
  obtain ⟨-, -, -, -, ⟨⟨m1, m2, m3, m4, m5, m6⟩, hcn, hwt⟩, hRC, hRW, hW, hM⟩ := hc
  obtain ⟨⟨dT, dC, gg, k0, k1, k2, k3, k4, k5, k6, k7, k8, k9, k10, k11, k12, k13, k14, k15, k16, k17, k18, k19, k20, k21, k22, k23, k24, k25⟩, -, -, h47, -⟩ := id hJ
  rcases hL with ⟨rfl, v, w3, u, ⟨hok, hv, q, hq0, hq4, hcq, hst, h0, hRU1, h7, h8, hdr, frl⟩, rfl, f47, fr47⟩ | ⟨E, hx, hE⟩
  · rcases hX with ⟨z, -⟩ | ⟨-, q2, hq02, hq42, hcq2, hb, hsw, ⟨hh9, on9, f26⟩, f28, f29, hjk, fx⟩ | ⟨-, q2, hq02, hq42, hcq2, y2, hy0, hsw, ⟨hh9, on9, f26⟩, hs, fx⟩
    · exact absurd hok z
    · have eq9 : q2 = q := (nI_eq (by omega) (by omega)).mp (hcq2.symm.trans hcq)
      subst eq9
      have hRW2 := hRW.shf hcn (t := t) (b := b9) hq0 hq4
      have fx9 : ∀ j : Nat, j < 26 → w2 j = w1 j := fun j hj => fx j (by omega) (by omega) (by omega) (by omega) (by omega) (by omega) (by omega)
      have hsz : mt_ct (fun q => T q = t) 24 = mt_ct (fun a => md_T n O a = t) 24 := by
        obtain ⟨⟨tj, q3, htj, htt, -, -⟩, -⟩ := hok
        rw [htt]; exact mr_size hRW.1 m1 htj
      exact ⟨_, mr_J.stm hJ hMF ((fx9 0 (by decide)).trans ((fr47 0 (by decide)).trans h0)) ((fx9 7 (by decide)).trans ((fr47 7 (by decide)).trans h7)) ((fx9 8 (by decide)).trans ((fr47 8 (by decide)).trans h8)) (hdr.mv (fun j hj => (fx9 j hj).trans (fr47 j (by omega)))) ⟨_, (fx9 13 (by decide)).trans ((fr47 13 (by decide)).trans ((frl 13 (by decide) (by decide) (by decide) (by decide) (by decide) (by decide)).trans k13))⟩ f26 f28 f29 hjk (hRU1.ext (fun j e h1 h2 => (fx j (by omega) (by omega) (by omega) (by omega) (by omega) (by omega) (by omega)).trans ((fr47 j (by omega)).trans h2))) ((fx 47 (by decide) (by decide) (by decide) (by decide) (by decide) (by decide) (by decide)).trans f47) (fun j hj n0 n7 n8 n10 n11 n13 n26 n28 n29 n30 n31 n32 n43 => (fx j n26 n28 n29 n30 n31 n32 n43).trans ((fr47 j (by omega)).trans (frl j (by omega) n0 n7 n8 n10 n11))) hRW2 (mr_st_0 hst), fun _ => by rw [pk_uLs, hv, hb, hsz]⟩
    · have eq9 : q2 = q := (nI_eq (by omega) (by omega)).mp (hcq2.symm.trans hcq)
      subst eq9
      have hRW2 := hRW.shf hcn (t := t) (b := b9) hq0 hq4
      exact absurd ((hJ.det hRW2 (Or.inl ⟨rfl, rfl⟩) hst hsw).symm.trans nI_0) hy0
  · rcases hx with ⟨hE1, hw1, hno⟩ | ⟨hE1, hok, q, hq0, hq4, hcq, r9, hr0, hst, h0, hRU1, h7, h8, hdr, frl⟩
    · obtain rfl : r = nI 1 := by rcases hE with ⟨e, e2⟩ | ⟨e, e2⟩ <;> first | exact e2 | exact absurd (e.symm.trans hE1) (by decide)
      subst hw1
      rcases hX with ⟨-, f26, hs, fr⟩ | ⟨z, -⟩ | ⟨z, -⟩
      · exact ⟨_, mr_J.kp hJ hMF f26 hs fr, fun z => absurd z (by decide)⟩
      · exact absurd z hno
      · exact absurd z hno
    · obtain rfl : r = nI 2 := by rcases hE with ⟨e, e2⟩ | ⟨e, e2⟩ <;> first | exact e2 | exact absurd (e.symm.trans hE1) (by decide)
      rcases hX with ⟨z, -⟩ | ⟨-, q2, hq02, hq42, hcq2, hb, hsw, ⟨hh9, on9, f26⟩, f28, f29, hjk, fx⟩ | ⟨-, q2, hq02, hq42, hcq2, y2, hy0, hsw, ⟨hh9, on9, f26⟩, hs, fx⟩
      · exact absurd hok z
      · have eq9 : q2 = q := (nI_eq (by omega) (by omega)).mp (hcq2.symm.trans hcq)
        subst eq9
        have hRW2 := hRW.shf hcn (t := t) (b := b9) hq0 hq4
        exact absurd ((hJ.det hRW2 (Or.inl ⟨rfl, rfl⟩) hst hsw).trans nI_0) hr0
      · have eq9 : q2 = q := (nI_eq (by omega) (by omega)).mp (hcq2.symm.trans hcq)
        subst eq9
        have hRW2 := hRW.shf hcn (t := t) (b := b9) hq0 hq4
        have e9 := hJ.det hRW2 (Or.inl ⟨rfl, rfl⟩) hst hsw
        subst e9
        have fx9 : ∀ j : Nat, j < 26 → w2 j = w1 j := fun j hj => fx j (by omega) (by omega) (by omega) (by omega) (by omega) (by omega) (by omega)
        have f47w : w1 47 = some (kl_aL G 1 ol) := (frl 47 (by decide) (by decide) (by decide) (by decide) (by decide) (by decide)).trans h47
        exact ⟨_, mr_J.ref hJ hMF ((fx9 0 (by decide)).trans h0) (hdr.mv fx9) ⟨_, (fx9 13 (by decide)).trans ((frl 13 (by decide) (by decide) (by decide) (by decide) (by decide) (by decide)).trans k13)⟩ f26 hs (hRU1.ext (fun j e h1 h2 => (fx j (by omega) (by omega) (by omega) (by omega) (by omega) (by omega) (by omega)).trans h2)) ((fx 47 (by decide) (by decide) (by decide) (by decide) (by decide) (by decide) (by decide)).trans f47w) (fun j hj n0 n10 n11 n13 n26 n28 n29 n30 n31 n32 n43 => (fx j n26 n28 n29 n30 n31 n32 n43).trans (by by_cases e7 : j = 7; subst e7; exact h7.trans k7.symm; by_cases e8 : j = 8; subst e8; exact h8.trans k8.symm; exact frl j (by omega) n0 e7 e8 n10 n11)), fun z => absurd z (by decide)⟩
set_option maxHeartbeats 2000000 in
theorem op_update (t k c x : Int32) {r b : Int32} (hJ : mr_J G B w ec ol nT nL nS nC nW nM n rs cn wt T C mT mC lf sf cf la lch lco lpa lwy sa stb sco ca cwa cpa ctb cln cwd ccol O D kR kO kD cw) (hMF : md_KF G B w nT nL nS nC nW nM n on ec rs hi cn wt O D oO oD gn lch lco lpa lwy stb sco ctb cln cw pl kR kO kD) (hL : ((fun r w1 => (r = nI 0 ∧ ∃ (v : Int32) (w2 : kl_M) (u : Int64), ((fun r w1 => (mt_col t c nT cn ∧ (c ≠ 0 ∨ x ≠ 0)) ∧ ∃ p q kp d2, p < 24 ∧ q < 4 ∧ c = nI q ∧ T p = t ∧ C (4 * p) = k ∧ r = C (4 * p + q) ∧ mt_up T C nL lch lco lpa lwy p q x kp d2 ∧ mt_st kp (mt_why T d2 nT nS stb sco nL lch lco lpa nC ctb cwd cln) (nI 0) ∧ w1 0 = some (.inr (4, [.ref (B + 1), .int (nI nT), .ref (B + 2), .int (nI nL), .ref (B + 3), .int (nI nS), .ref (B + 4), .int (nI nC), .ref (B + 5), .int (nI nW), .ref (B + 6), .ref (B + 9), .ref (B + 12), .int (nI nM), .ref (B + 13), .int rs])) ∧ kl_RU G B w1 nL lf la lch lco lpa lwy nS sf sa stb sco nC cf ca cwa cpa ctb cln cwd ccol ∧ w1 7 = some (kl_aI G 24 T) ∧ w1 8 = some (kl_aI G 96 d2) ∧ kl_dr G w1 ∧ ∀ j : Nat, j < 48 → j ≠ 0 → j ≠ 7 → j ≠ 8 → j ≠ 10 → j ≠ 11 → w1 j = w j) : Int32 → kl_M → Prop) v w2 ∧ u = v.toInt64 ∧ w1 47 = some (kl_aL G 1 (vp_updL ol 0 u)) ∧ ∀ j : Nat, j ≠ 47 → w1 j = w2 j) ∨ ∃ E : String, ((fun E w1 => (E = "java/lang/IllegalArgumentException" ∧ w1 = w ∧ ¬ (mt_col t c nT cn ∧ (c ≠ 0 ∨ x ≠ 0))) ∨ (E = "java/util/NoSuchElementException" ∧ w1 = w ∧ (mt_col t c nT cn ∧ (c ≠ 0 ∨ x ≠ 0)) ∧ ¬ mt_has T C t k) ∨ (E = "java/lang/IllegalStateException" ∧ (mt_col t c nT cn ∧ (c ≠ 0 ∨ x ≠ 0)) ∧ ∃ p q kp d2, p < 24 ∧ q < 4 ∧ c = nI q ∧ T p = t ∧ C (4 * p) = k ∧ mt_up T C nL lch lco lpa lwy p q x kp d2 ∧ ∃ r, r ≠ 0 ∧ mt_st kp (mt_why T d2 nT nS stb sco nL lch lco lpa nC ctb cwd cln) r ∧ w1 0 = some (.inr (4, [.ref (B + 1), .int (nI nT), .ref (B + 2), .int (nI nL), .ref (B + 3), .int (nI nS), .ref (B + 4), .int (nI nC), .ref (B + 5), .int (nI nW), .ref (B + 6), .ref (B + 9), .ref (B + 12), .int (nI nM), .ref (B + 13), .int r])) ∧ kl_RU G B w1 nL lf la lch lco lpa lwy nS sf sa stb sco nC cf ca cwa cpa ctb cln cwd ccol ∧ w1 7 = some (kl_aI G 24 T) ∧ w1 8 = some (kl_aI G 96 C) ∧ kl_dr G w1 ∧ ∀ j : Nat, j < 48 → j ≠ 0 → j ≠ 7 → j ≠ 8 → j ≠ 10 → j ≠ 11 → w1 j = w j)) : String → kl_M → Prop) E w1 ∧ ((E = "java/lang/IllegalArgumentException" ∧ r = nI 1) ∨ (E = "java/util/NoSuchElementException" ∧ r = nI 2) ∨ (E = "java/lang/IllegalStateException" ∧ r = nI 3))) : Int32 → kl_M → Prop) r w1) (hX : (fun (w : kl_M) => ((fun r w1 => (¬ (mt_col t c nT cn ∧ (c ≠ 0 ∨ x ≠ 0)) ∧ w1 26 = some (.inr (5, [.int (nI 1), .int rs, .int (nI nT), .ref (B + 27), .int (nI n), .ref (B + 28), .ref (B + 29), .int (nI on), .ref (B + 30), .ref (B + 31), .ref (B + 32), .int (nI nL), .ref (B + 33), .ref (B + 34), .ref (B + 35), .ref (B + 36), .int (nI nS), .ref (B + 37), .ref (B + 38), .int (nI nC), .ref (B + 39), .ref (B + 40), .ref (B + 41), .int (nI nW), .ref (B + 42), .int hi, .ref (B + 43), .int (nI nM), .ref (B + 44), .ref (B + 45), .ref (B + 46)])) ∧ md_sm G w1 n O D ∧ ∀ j : Nat, j ≠ 26 → j ≠ 28 → j ≠ 29 → j ≠ 30 → j ≠ 31 → j ≠ 32 → j ≠ 43 → w1 j = w j) ∨ ((mt_col t c nT cn ∧ (c ≠ 0 ∨ x ≠ 0)) ∧ (k = 0 ∨ ¬ mt_has (md_T n O) D t k) ∧ w1 26 = some (.inr (5, [.int (nI 2), .int rs, .int (nI nT), .ref (B + 27), .int (nI n), .ref (B + 28), .ref (B + 29), .int (nI on), .ref (B + 30), .ref (B + 31), .ref (B + 32), .int (nI nL), .ref (B + 33), .ref (B + 34), .ref (B + 35), .ref (B + 36), .int (nI nS), .ref (B + 37), .ref (B + 38), .int (nI nC), .ref (B + 39), .ref (B + 40), .ref (B + 41), .int (nI nW), .ref (B + 42), .int hi, .ref (B + 43), .int (nI nM), .ref (B + 44), .ref (B + 45), .ref (B + 46)])) ∧ md_sm G w1 n O D ∧ ∀ j : Nat, j ≠ 26 → j ≠ 28 → j ≠ 29 → j ≠ 30 → j ≠ 31 → j ≠ 32 → j ≠ 43 → w1 j = w j) ∨ ((mt_col t c nT cn ∧ (c ≠ 0 ∨ x ≠ 0)) ∧ k ≠ 0 ∧ ∃ (p q : Nat), p < n ∧ q < 4 ∧ c = nI q ∧ O p = t ∧ D (4 * p) = k ∧ x = D (4 * p + q) ∧ r = D (4 * p + q) ∧ w1 26 = some (.inr (5, [.int (nI 0), .int rs, .int (nI nT), .ref (B + 27), .int (nI n), .ref (B + 28), .ref (B + 29), .int (nI on), .ref (B + 30), .ref (B + 31), .ref (B + 32), .int (nI nL), .ref (B + 33), .ref (B + 34), .ref (B + 35), .ref (B + 36), .int (nI nS), .ref (B + 37), .ref (B + 38), .int (nI nC), .ref (B + 39), .ref (B + 40), .ref (B + 41), .int (nI nW), .ref (B + 42), .int hi, .ref (B + 43), .int (nI nM), .ref (B + 44), .ref (B + 45), .ref (B + 46)])) ∧ md_sm G w1 n O D ∧ ∀ j : Nat, j ≠ 26 → j ≠ 28 → j ≠ 29 → j ≠ 30 → j ≠ 31 → j ≠ 32 → j ≠ 43 → w1 j = w j) ∨ ((mt_col t c nT cn ∧ (c ≠ 0 ∨ x ≠ 0)) ∧ k ≠ 0 ∧ ∃ (p q : Nat), p < n ∧ q < 4 ∧ c = nI q ∧ O p = t ∧ D (4 * p) = k ∧ x ≠ D (4 * p + q) ∧ ∃ (sO sD : Nat → Int32) (kp : Int32) (y : Nat) (d2 : Nat → Int32), (∀ p, p < n → sO p = O p) ∧ (∀ k, k < 4 * n → sD k = D k) ∧ md_up n D sO sD nL lch lco lpa lwy p q x kp d2 ∧ md_wy kp y ∧ r = D (4 * p + q) ∧ md_sw y (mt_why (md_T n O) d2 nT nS stb sco nL lch lco lpa nC ctb (fun j i => cw (10 * j + i)) cln) (nI 0) ∧ (∃ h2 on2, w1 26 = some (.inr (5, [.int (nI 0), .int rs, .int (nI nT), .ref (B + 27), .int (nI n), .ref (B + 28), .ref (B + 29), .int (nI on2), .ref (B + 30), .ref (B + 31), .ref (B + 32), .int (nI nL), .ref (B + 33), .ref (B + 34), .ref (B + 35), .ref (B + 36), .int (nI nS), .ref (B + 37), .ref (B + 38), .int (nI nC), .ref (B + 39), .ref (B + 40), .ref (B + 41), .int (nI nW), .ref (B + 42), .int h2, .ref (B + 43), .int (nI nM), .ref (B + 44), .ref (B + 45), .ref (B + 46)]))) ∧ w1 28 = some (kl_aI G 24 O) ∧ w1 29 = some (kl_aI G 96 d2) ∧ md_jk G w1 ∧ ∀ j : Nat, j ≠ 26 → j ≠ 28 → j ≠ 29 → j ≠ 30 → j ≠ 31 → j ≠ 32 → j ≠ 43 → w1 j = w j) ∨ ((mt_col t c nT cn ∧ (c ≠ 0 ∨ x ≠ 0)) ∧ k ≠ 0 ∧ ∃ (p q : Nat), p < n ∧ q < 4 ∧ c = nI q ∧ O p = t ∧ D (4 * p) = k ∧ x ≠ D (4 * p + q) ∧ ∃ (sO sD : Nat → Int32) (kp : Int32) (y : Nat) (d2 : Nat → Int32), (∀ p, p < n → sO p = O p) ∧ (∀ k, k < 4 * n → sD k = D k) ∧ md_up n D sO sD nL lch lco lpa lwy p q x kp d2 ∧ md_wy kp y ∧ ∃ y2, y2 ≠ 0 ∧ md_sw y (mt_why (md_T n O) d2 nT nS stb sco nL lch lco lpa nC ctb (fun j i => cw (10 * j + i)) cln) y2 ∧ (∃ h2 on2, w1 26 = some (.inr (5, [.int (nI 3), .int y2, .int (nI nT), .ref (B + 27), .int (nI n), .ref (B + 28), .ref (B + 29), .int (nI on2), .ref (B + 30), .ref (B + 31), .ref (B + 32), .int (nI nL), .ref (B + 33), .ref (B + 34), .ref (B + 35), .ref (B + 36), .int (nI nS), .ref (B + 37), .ref (B + 38), .int (nI nC), .ref (B + 39), .ref (B + 40), .ref (B + 41), .int (nI nW), .ref (B + 42), .int h2, .ref (B + 43), .int (nI nM), .ref (B + 44), .ref (B + 45), .ref (B + 46)]))) ∧ md_sm G w1 n O D ∧ ∀ j : Nat, j ≠ 26 → j ≠ 28 → j ≠ 29 → j ≠ 30 → j ≠ 31 → j ≠ 32 → j ≠ 43 → w1 j = w j)) : Int32 → kl_M → Prop)) w1 b w2) : ∃ ol3, mr_I G B w2 r ol3 ∧ (r = 0 → ol3 0 = b.toInt64) := by
  have hc := hJ
  obtain ⟨-, -, -, -, ⟨⟨m1, m2, m3, m4, m5, m6⟩, hcn, hwt⟩, hRC, hRW, hW, hM⟩ := hc
  obtain ⟨⟨dT, dC, gg, k0, k1, k2, k3, k4, k5, k6, k7, k8, k9, k10, k11, k12, k13, k14, k15, k16, k17, k18, k19, k20, k21, k22, k23, k24, k25⟩, -, -, h47, -⟩ := id hJ
  rcases hL with ⟨rfl, v, w3, u, ⟨hok, p, q, kp, d2, hp, hq4, hcq, hTp, hCp, hv, hup, hst, h0, hRU1, h7, h8, hdr, frl⟩, rfl, f47, fr47⟩ | ⟨E, hx, hE⟩
  · rcases hX with ⟨z, -⟩ | ⟨-, z, -⟩ | ⟨hok2, hkz, p2, q2, hp2, hq42, hcq2, hOp, hDp, hx, hb, f26, hs, fx⟩ | ⟨hok2, hkz, p2, q2, hp2, hq42, hcq2, hOp, hDp, hne, sO, sD, kp2, y, d3, hsO, hsD, hup2, hwy, hb, hsw, ⟨hh9, on9, f26⟩, f28, f29, hjk, fx⟩ | ⟨hok2, hkz, p2, q2, hp2, hq42, hcq2, hOp, hDp, hne, sO, sD, kp2, y, d3, hsO, hsD, hup2, hwy, y2, hy0, hsw, ⟨hh9, on9, f26⟩, hs, fx⟩
    · exact absurd hok z
    · obtain ⟨tj, q3, htj, htt, -, -⟩ := hok.1
      subst htt
      refine z.elim (fun z => absurd (hCp.trans z) (hRW.2.2.1 p hp (by rw [hTp]; exact mr_nt m1 htj))) (fun z => absurd ((mr_has hRW.1 m1 hJ.h0 htj).mp ⟨p, hp, hTp, hCp⟩) z)
    · have eq9 : q2 = q := (nI_eq (by omega) (by omega)).mp (hcq2.symm.trans hcq)
      subst eq9
      obtain ⟨tj, q3, htj, htt, hq3, hc3⟩ := hok.1
      have eq8 : q3 = q2 := (nI_eq (by have := hcn tj htj; omega) (by omega)).mp (hc3.symm.trans hcq)
      subst eq8
      subst htt
      have hcell : C (4 * p + q3) = D (4 * p2 + q3) := by
        obtain ⟨f, hf⟩ := hRW.1
        have hpl := mr_place hf m1 hJ.h0 hJ.uniq hRW.2.2.2.2 htj hp hTp hCp hp2 hOp hDp
        rw [← hpl]; exact (hf.cell m1 hp htj hTp hq3).symm
      have hxe : x = C (4 * p + q3) := hx.trans hcell.symm
      obtain ⟨ekp, ed2⟩ : kp = -1 ∧ d2 = C := by
        rcases hup with ⟨e1, e2, e3⟩ | ⟨e1, e2, -⟩
        · exact ⟨e2, by rw [e3, hxe]; exact md_upd_self C _⟩
        · subst e1; exact absurd hxe e2
      subst ekp; subst ed2
      have fx9 : ∀ j : Nat, j < 26 → w2 j = w1 j := fun j hj => fx j (by omega) (by omega) (by omega) (by omega) (by omega) (by omega) (by omega)
      obtain ⟨⟨O2, D2, f28, f29, hO2, hD2⟩, hjk⟩ := hs
      exact ⟨_, mr_J.stm hJ hMF ((fx9 0 (by decide)).trans ((fr47 0 (by decide)).trans h0)) ((fx9 7 (by decide)).trans ((fr47 7 (by decide)).trans h7)) ((fx9 8 (by decide)).trans ((fr47 8 (by decide)).trans h8)) (hdr.mv (fun j hj => (fx9 j hj).trans (fr47 j (by omega)))) ⟨_, (fx9 13 (by decide)).trans ((fr47 13 (by decide)).trans ((frl 13 (by decide) (by decide) (by decide) (by decide) (by decide) (by decide)).trans k13))⟩ f26 f28 f29 hjk (hRU1.ext (fun j e h1 h2 => (fx j (by omega) (by omega) (by omega) (by omega) (by omega) (by omega) (by omega)).trans ((fr47 j (by omega)).trans h2))) ((fx 47 (by decide) (by decide) (by decide) (by decide) (by decide) (by decide) (by decide)).trans f47) (fun j hj n0 n7 n8 n10 n11 n13 n26 n28 n29 n30 n31 n32 n43 => (fx j n26 n28 n29 n30 n31 n32 n43).trans ((fr47 j (by omega)).trans (frl j (by omega) n0 n7 n8 n10 n11))) (hRW.same (fun t ht => (hcn t ht).2) hO2 hD2) hW, fun _ => by rw [pk_uLs, hv, hb, hcell]⟩
    · have eq9 : q2 = q := (nI_eq (by omega) (by omega)).mp (hcq2.symm.trans hcq)
      subst eq9
      obtain ⟨tj, q3, htj, htt, hq3, hc3⟩ := hok.1
      have eq8 : q3 = q2 := (nI_eq (by have := hcn tj htj; omega) (by omega)).mp (hc3.symm.trans hcq)
      subst eq8
      subst htt
      have hcell : C (4 * p + q3) = D (4 * p2 + q3) := by
        obtain ⟨f, hf⟩ := hRW.1
        have hpl := mr_place hf m1 hJ.h0 hJ.uniq hRW.2.2.2.2 htj hp hTp hCp hp2 hOp hDp
        rw [← hpl]; exact (hf.cell m1 hp htj hTp hq3).symm
      obtain ⟨hRW2, hkk⟩ : mr_RW nT cn T d2 n O d3 ∧ kp = kp2 := by
        rcases hup with ⟨e1, e2, e3⟩ | ⟨e1, e2, e3, e4⟩
        · rcases hup2 with ⟨c1, c2, c3⟩ | ⟨c1, c2, c3⟩
          · refine ⟨?_, e2.trans c2.symm⟩
            rw [e3, c3]
            exact hRW.upc m1 hcn hJ.uniq htj hp hTp hCp hp2 hOp hDp hq4 (fun z => absurd z c1)
          · subst c1
            exact absurd (e1.elim (fun z => absurd rfl z) (fun z => z.trans hcell)) hne
        · rcases hup2 with ⟨c1, -, -⟩ | ⟨c1, c2, c3⟩
          · exact absurd e1 c1
          · subst c1
            exact hRW.rnm m1 hcn hJ.uniq hRC.1.1 (fun j hj => (hRC.2.1.1 j hj).2.2.1.1) hsO hsD htj hp hTp hCp hp2 hOp hDp (hok.2.elim (fun z => absurd (hcq.trans nI_0) z) id) e3 c2 e4 c3
      subst hkk
      have fx9 : ∀ j : Nat, j < 26 → w2 j = w1 j := fun j hj => fx j (by omega) (by omega) (by omega) (by omega) (by omega) (by omega) (by omega)
      exact ⟨_, mr_J.stm hJ hMF ((fx9 0 (by decide)).trans ((fr47 0 (by decide)).trans h0)) ((fx9 7 (by decide)).trans ((fr47 7 (by decide)).trans h7)) ((fx9 8 (by decide)).trans ((fr47 8 (by decide)).trans h8)) (hdr.mv (fun j hj => (fx9 j hj).trans (fr47 j (by omega)))) ⟨_, (fx9 13 (by decide)).trans ((fr47 13 (by decide)).trans ((frl 13 (by decide) (by decide) (by decide) (by decide) (by decide) (by decide)).trans k13))⟩ f26 f28 f29 hjk (hRU1.ext (fun j e h1 h2 => (fx j (by omega) (by omega) (by omega) (by omega) (by omega) (by omega) (by omega)).trans ((fr47 j (by omega)).trans h2))) ((fx 47 (by decide) (by decide) (by decide) (by decide) (by decide) (by decide) (by decide)).trans f47) (fun j hj n0 n7 n8 n10 n11 n13 n26 n28 n29 n30 n31 n32 n43 => (fx j n26 n28 n29 n30 n31 n32 n43).trans ((fr47 j (by omega)).trans (frl j (by omega) n0 n7 n8 n10 n11))) hRW2 (mr_st_0 hst), fun _ => by rw [pk_uLs, hv, hb, hcell]⟩
    · have eq9 : q2 = q := (nI_eq (by omega) (by omega)).mp (hcq2.symm.trans hcq)
      subst eq9
      obtain ⟨tj, q3, htj, htt, hq3, hc3⟩ := hok.1
      have eq8 : q3 = q2 := (nI_eq (by have := hcn tj htj; omega) (by omega)).mp (hc3.symm.trans hcq)
      subst eq8
      subst htt
      have hcell : C (4 * p + q3) = D (4 * p2 + q3) := by
        obtain ⟨f, hf⟩ := hRW.1
        have hpl := mr_place hf m1 hJ.h0 hJ.uniq hRW.2.2.2.2 htj hp hTp hCp hp2 hOp hDp
        rw [← hpl]; exact (hf.cell m1 hp htj hTp hq3).symm
      obtain ⟨hRW2, hkk⟩ : mr_RW nT cn T d2 n O d3 ∧ kp = kp2 := by
        rcases hup with ⟨e1, e2, e3⟩ | ⟨e1, e2, e3, e4⟩
        · rcases hup2 with ⟨c1, c2, c3⟩ | ⟨c1, c2, c3⟩
          · refine ⟨?_, e2.trans c2.symm⟩
            rw [e3, c3]
            exact hRW.upc m1 hcn hJ.uniq htj hp hTp hCp hp2 hOp hDp hq4 (fun z => absurd z c1)
          · subst c1
            exact absurd (e1.elim (fun z => absurd rfl z) (fun z => z.trans hcell)) hne
        · rcases hup2 with ⟨c1, -, -⟩ | ⟨c1, c2, c3⟩
          · exact absurd e1 c1
          · subst c1
            exact hRW.rnm m1 hcn hJ.uniq hRC.1.1 (fun j hj => (hRC.2.1.1 j hj).2.2.1.1) hsO hsD htj hp hTp hCp hp2 hOp hDp (hok.2.elim (fun z => absurd (hcq.trans nI_0) z) id) e3 c2 e4 c3
      subst hkk
      exact absurd ((hJ.det hRW2 hwy hst hsw).symm.trans nI_0) hy0
  · rcases hx with ⟨hE1, hw1, hno⟩ | ⟨hE1, hw1, hok, hno⟩ | ⟨hE1, hok, p, q, kp, d2, hp, hq4, hcq, hTp, hCp, hup, r9, hr0, hst, h0, hRU1, h7, h8, hdr, frl⟩
    · obtain rfl : r = nI 1 := by rcases hE with ⟨e, e2⟩ | ⟨e, e2⟩ | ⟨e, e2⟩ <;> first | exact e2 | exact absurd (e.symm.trans hE1) (by decide)
      subst hw1
      rcases hX with ⟨-, f26, hs, fr⟩ | ⟨z, -⟩ | ⟨z, -⟩ | ⟨z, -⟩ | ⟨z, -⟩
      · exact ⟨_, mr_J.kp hJ hMF f26 hs fr, fun z => absurd z (by decide)⟩
      · exact absurd z hno
      · exact absurd z hno
      · exact absurd z hno
      · exact absurd z hno
    · obtain rfl : r = nI 2 := by rcases hE with ⟨e, e2⟩ | ⟨e, e2⟩ | ⟨e, e2⟩ <;> first | exact e2 | exact absurd (e.symm.trans hE1) (by decide)
      subst hw1
      have hno2 : ∀ p2, p2 < n → O p2 = t → D (4 * p2) = k → False := fun p2 a1 a2 a3 => by
        obtain ⟨tj, q3, htj, htt, -, -⟩ := hok.1
        subst htt
        exact hno ((mr_has hRW.1 m1 hJ.h0 htj).mpr ⟨p2, by have := hRW.2.2.2.2; omega, by rw [md_lt a1]; exact a2, a3⟩)
      rcases hX with ⟨z, -⟩ | ⟨-, -, f26, hs, fr⟩ | ⟨hok2, hkz, p2, q2, hp2, hq42, hcq2, hOp, hDp, -⟩ | ⟨hok2, hkz, p2, q2, hp2, hq42, hcq2, hOp, hDp, -⟩ | ⟨hok2, hkz, p2, q2, hp2, hq42, hcq2, hOp, hDp, -⟩
      · exact absurd hok z
      · exact ⟨_, mr_J.kp hJ hMF f26 hs fr, fun z => absurd z (by decide)⟩
      · exact (hno2 p2 hp2 hOp hDp).elim
      · exact (hno2 p2 hp2 hOp hDp).elim
      · exact (hno2 p2 hp2 hOp hDp).elim
    · obtain rfl : r = nI 3 := by rcases hE with ⟨e, e2⟩ | ⟨e, e2⟩ | ⟨e, e2⟩ <;> first | exact e2 | exact absurd (e.symm.trans hE1) (by decide)
      rcases hX with ⟨z, -⟩ | ⟨-, z, -⟩ | ⟨hok2, hkz, p2, q2, hp2, hq42, hcq2, hOp, hDp, hx, hb, f26, hs, fx⟩ | ⟨hok2, hkz, p2, q2, hp2, hq42, hcq2, hOp, hDp, hne, sO, sD, kp2, y, d3, hsO, hsD, hup2, hwy, hb, hsw, ⟨hh9, on9, f26⟩, f28, f29, hjk, fx⟩ | ⟨hok2, hkz, p2, q2, hp2, hq42, hcq2, hOp, hDp, hne, sO, sD, kp2, y, d3, hsO, hsD, hup2, hwy, y2, hy0, hsw, ⟨hh9, on9, f26⟩, hs, fx⟩
      · exact absurd hok z
      · obtain ⟨tj, q3, htj, htt, -, -⟩ := hok.1
        subst htt
        refine z.elim (fun z => absurd (hCp.trans z) (hRW.2.2.1 p hp (by rw [hTp]; exact mr_nt m1 htj))) (fun z => absurd ((mr_has hRW.1 m1 hJ.h0 htj).mp ⟨p, hp, hTp, hCp⟩) z)
      · have eq9 : q2 = q := (nI_eq (by omega) (by omega)).mp (hcq2.symm.trans hcq)
        subst eq9
        obtain ⟨tj, q3, htj, htt, hq3, hc3⟩ := hok.1
        have eq8 : q3 = q2 := (nI_eq (by have := hcn tj htj; omega) (by omega)).mp (hc3.symm.trans hcq)
        subst eq8
        subst htt
        have hcell : C (4 * p + q3) = D (4 * p2 + q3) := by
          obtain ⟨f, hf⟩ := hRW.1
          have hpl := mr_place hf m1 hJ.h0 hJ.uniq hRW.2.2.2.2 htj hp hTp hCp hp2 hOp hDp
          rw [← hpl]; exact (hf.cell m1 hp htj hTp hq3).symm
        have hxe : x = C (4 * p + q3) := hx.trans hcell.symm
        obtain ⟨ekp, ed2⟩ : kp = -1 ∧ d2 = C := by
          rcases hup with ⟨e1, e2, e3⟩ | ⟨e1, e2, -⟩
          · exact ⟨e2, by rw [e3, hxe]; exact md_upd_self C _⟩
          · subst e1; exact absurd hxe e2
        subst ekp; subst ed2
        exact absurd ((mr_st_det (fun a b ha hb => mr_why_det ha hb) hst (Or.inl ⟨rfl, hW⟩)).trans nI_0) hr0
      · have eq9 : q2 = q := (nI_eq (by omega) (by omega)).mp (hcq2.symm.trans hcq)
        subst eq9
        obtain ⟨tj, q3, htj, htt, hq3, hc3⟩ := hok.1
        have eq8 : q3 = q2 := (nI_eq (by have := hcn tj htj; omega) (by omega)).mp (hc3.symm.trans hcq)
        subst eq8
        subst htt
        have hcell : C (4 * p + q3) = D (4 * p2 + q3) := by
          obtain ⟨f, hf⟩ := hRW.1
          have hpl := mr_place hf m1 hJ.h0 hJ.uniq hRW.2.2.2.2 htj hp hTp hCp hp2 hOp hDp
          rw [← hpl]; exact (hf.cell m1 hp htj hTp hq3).symm
        obtain ⟨hRW2, hkk⟩ : mr_RW nT cn T d2 n O d3 ∧ kp = kp2 := by
          rcases hup with ⟨e1, e2, e3⟩ | ⟨e1, e2, e3, e4⟩
          · rcases hup2 with ⟨c1, c2, c3⟩ | ⟨c1, c2, c3⟩
            · refine ⟨?_, e2.trans c2.symm⟩
              rw [e3, c3]
              exact hRW.upc m1 hcn hJ.uniq htj hp hTp hCp hp2 hOp hDp hq4 (fun z => absurd z c1)
            · subst c1
              exact absurd (e1.elim (fun z => absurd rfl z) (fun z => z.trans hcell)) hne
          · rcases hup2 with ⟨c1, -, -⟩ | ⟨c1, c2, c3⟩
            · exact absurd e1 c1
            · subst c1
              exact hRW.rnm m1 hcn hJ.uniq hRC.1.1 (fun j hj => (hRC.2.1.1 j hj).2.2.1.1) hsO hsD htj hp hTp hCp hp2 hOp hDp (hok.2.elim (fun z => absurd (hcq.trans nI_0) z) id) e3 c2 e4 c3
        subst hkk
        exact absurd ((hJ.det hRW2 hwy hst hsw).trans nI_0) hr0
      · have eq9 : q2 = q := (nI_eq (by omega) (by omega)).mp (hcq2.symm.trans hcq)
        subst eq9
        obtain ⟨tj, q3, htj, htt, hq3, hc3⟩ := hok.1
        have eq8 : q3 = q2 := (nI_eq (by have := hcn tj htj; omega) (by omega)).mp (hc3.symm.trans hcq)
        subst eq8
        subst htt
        have hcell : C (4 * p + q3) = D (4 * p2 + q3) := by
          obtain ⟨f, hf⟩ := hRW.1
          have hpl := mr_place hf m1 hJ.h0 hJ.uniq hRW.2.2.2.2 htj hp hTp hCp hp2 hOp hDp
          rw [← hpl]; exact (hf.cell m1 hp htj hTp hq3).symm
        obtain ⟨hRW2, hkk⟩ : mr_RW nT cn T d2 n O d3 ∧ kp = kp2 := by
          rcases hup with ⟨e1, e2, e3⟩ | ⟨e1, e2, e3, e4⟩
          · rcases hup2 with ⟨c1, c2, c3⟩ | ⟨c1, c2, c3⟩
            · refine ⟨?_, e2.trans c2.symm⟩
              rw [e3, c3]
              exact hRW.upc m1 hcn hJ.uniq htj hp hTp hCp hp2 hOp hDp hq4 (fun z => absurd z c1)
            · subst c1
              exact absurd (e1.elim (fun z => absurd rfl z) (fun z => z.trans hcell)) hne
          · rcases hup2 with ⟨c1, -, -⟩ | ⟨c1, c2, c3⟩
            · exact absurd e1 c1
            · subst c1
              exact hRW.rnm m1 hcn hJ.uniq hRC.1.1 (fun j hj => (hRC.2.1.1 j hj).2.2.1.1) hsO hsD htj hp hTp hCp hp2 hOp hDp (hok.2.elim (fun z => absurd (hcq.trans nI_0) z) id) e3 c2 e4 c3
        subst hkk
        have e9 := hJ.det hRW2 hwy hst hsw
        subst e9
        have fx9 : ∀ j : Nat, j < 26 → w2 j = w1 j := fun j hj => fx j (by omega) (by omega) (by omega) (by omega) (by omega) (by omega) (by omega)
        have f47w : w1 47 = some (kl_aL G 1 ol) := (frl 47 (by decide) (by decide) (by decide) (by decide) (by decide) (by decide)).trans h47
        exact ⟨_, mr_J.ref hJ hMF ((fx9 0 (by decide)).trans h0) (hdr.mv fx9) ⟨_, (fx9 13 (by decide)).trans ((frl 13 (by decide) (by decide) (by decide) (by decide) (by decide) (by decide)).trans k13)⟩ f26 hs (hRU1.ext (fun j e h1 h2 => (fx j (by omega) (by omega) (by omega) (by omega) (by omega) (by omega) (by omega)).trans h2)) ((fx 47 (by decide) (by decide) (by decide) (by decide) (by decide) (by decide) (by decide)).trans f47w) (fun j hj n0 n10 n11 n13 n26 n28 n29 n30 n31 n32 n43 => (fx j n26 n28 n29 n30 n31 n32 n43).trans (by by_cases e7 : j = 7; subst e7; exact h7.trans k7.symm; by_cases e8 : j = 8; subst e8; exact h8.trans k8.symm; exact frl j (by omega) n0 e7 e8 n10 n11)), fun z => absurd z (by decide)⟩
end OPS2
