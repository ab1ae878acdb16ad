abbrev rm_X4_insert : Room := { frames := 8, cells := 3, slots := 18, locals := 135 }
set_option maxHeartbeats 4000000 in
set_option maxRecDepth 100000 in
theorem c_X4_insert (l : Launch) (hst : l.stackTraces = false) (G : kl_G) (B : Nat) (w : kl_M) {nT nW nM : Nat} {rs : Int32} {nL nS nC : Nat} {lf sf cf : Nat → Option Nat} {la : Nat → Nat} {lch : Nat → Int32} {lco : Nat → Nat} {lpa lwy : Nat → Int32} {sa : Nat → Nat} {stb : Nat → Int32} {sco ca cwa cpa : Nat → Nat} {ctb : Nat → Int32} {cln : Nat → Nat} {cwd : Nat → Nat → Nat} {ccol : Nat → Nat} {T C dT dC : Nat → Int32} (t a b c d : Int32) (k0 : w 0 = some (.inr (4, [.ref (B + 1), .int (nI nT), .ref (B + 2), .int (nI nL), .ref (B + 3), .int (nI nS), .ref (B + 4), .int (nI nC), .ref (B + 5), .int (nI nW), .ref (B + 6), .ref (B + 9), .ref (B + 12), .int (nI nM), .ref (B + 13), .int rs]))) (k2 : w 2 = some (kl_aR G 3 6 lf)) (k3 : w 3 = some (kl_aR G 4 4 sf)) (k4 : w 4 = some (kl_aR G 5 4 cf)) (k6 : w 6 = some (.inr (2, [.ref (B + 7), .ref (B + 8)]))) (k7 : w 7 = some (kl_aI G 24 T)) (k8 : w 8 = some (kl_aI G 96 C)) (k9 : w 9 = some (.inr (2, [.ref (B + 10), .ref (B + 11)]))) (k10 : w 10 = some (kl_aI G 24 dT)) (k11 : w 11 = some (kl_aI G 96 dC)) (hnn : nT ≤ 4 ∧ nL ≤ 6 ∧ nS ≤ 4 ∧ nC ≤ 4 ∧ nW ≤ 10 ∧ nM ≤ 4) (hru : kl_RU G B w nL lf la lch lco lpa lwy nS sf sa stb sco nC cf ca cwa cpa ctb cln cwd ccol) : vx_Met l yX4_insert wsX4_insert rm_X4_insert (kl_Px G B w [.ref (B + 0), .int t, .int a, .int b, .int c, .int d]) (kl_Qv G B (fun w1 => (mt_tab t nT ∧ a ≠ 0) ∧ ∃ p, p < 24 ∧ T p = -1 ∧ mt_st (-1) (mt_why (upd T p t) (mt_ins C p a b c d) nT nS stb sco nL lch lco lpa nC ctb cwd cln) (nI 0) ∧ w1 0 = some (.inr (4, [.ref (B + 1), .int (nI nT), .ref (B + 2), .int (nI nL), .ref (B + 3), .int (nI nS), .ref (B + 4), .int (nI nC), .ref (B + 5), .int (nI nW), .ref (B + 6), .ref (B + 9), .ref (B + 12), .int (nI nM), .ref (B + 13), .int rs])) ∧ kl_RU G B w1 nL lf la lch lco lpa lwy nS sf sa stb sco nC cf ca cwa cpa ctb cln cwd ccol ∧ w1 7 = some (kl_aI G 24 (upd T p t)) ∧ w1 8 = some (kl_aI G 96 (mt_ins C p a b c d)) ∧ kl_dr G w1 ∧ ∀ j : Nat, j < 48 → j ≠ 0 → j ≠ 7 → j ≠ 8 → j ≠ 10 → j ≠ 11 → w1 j = w j)) (kl_X G B (fun E w1 => (E = "java/lang/IllegalArgumentException" ∧ w1 = w ∧ ¬ (mt_tab t nT ∧ a ≠ 0)) ∨ (E = "java/util/NoSuchElementException" ∧ w1 = w ∧ (mt_tab t nT ∧ a ≠ 0) ∧ ∀ p, p < 24 → ¬ T p = -1) ∨ (E = "java/lang/IllegalStateException" ∧ (mt_tab t nT ∧ a ≠ 0) ∧ ∃ p, p < 24 ∧ T p = -1 ∧ ∃ r, r ≠ 0 ∧ mt_st (-1) (mt_why (upd T p t) (mt_ins C p a b c d) nT nS stb sco nL lch lco lpa nC ctb cwd cln) r ∧ w1 0 = some (.inr (4, [.ref (B + 1), .int (nI nT), .ref (B + 2), .int (nI nL), .ref (B + 3), .int (nI nS), .ref (B + 4), .int (nI nC), .ref (B + 5), .int (nI nW), .ref (B + 6), .ref (B + 9), .ref (B + 12), .int (nI nM), .ref (B + 13), .int r])) ∧ kl_RU G B w1 nL lf la lch lco lpa lwy nS sf sa stb sco nC cf ca cwa cpa ctb cln cwd ccol ∧ w1 7 = some (kl_aI G 24 T) ∧ w1 8 = some (kl_aI G 96 C) ∧ kl_dr G w1 ∧ ∀ j : Nat, j < 48 → j ≠ 0 → j ≠ 7 → j ≠ 8 → j ≠ 10 → j ≠ 11 → w1 j = w j))) 3 18 (kl_fr B) := by
  refine vx_ofW (cc := cX4_insert) (maxL := 7) (ret := none) (by decide) rfl ?_
  intro pg e s m args below meth cd s₁ Bd hml hout hv
  obtain ⟨rfl, hP0, hK, hZ⟩ := hv
  have hx := Bd.exec
  have hb := Bd.bytes
  have hr := Bd.returns
  have hts := atoms_spec (ws := wsX4_insert) Bd.pre
  have hown : s.vm.findClass RX4 = some m.cls := findClass_of_methodNamed Bd.named
  have hlocks := Bd.notSynchronized
  have hinX4 : ∀ w ∈ u_ws RX4 TX4 16, w ∈ wsX4_insert := by decide +kernel
  have hP := kl_S.rf hP0
  have hl := lv_entry ([.ref (B + 0), .int t, .int a, .int b, .int c, .int d]) (n := 7) (Nat.le_of_ble_eq_true rfl)
  rw [lg_entry_eq]
  generalize (lg_sl ([.ref (B + 0), .int t, .int a, .int b, .int c, .int d]) ++ List.replicate (7 - (lg_sl ([.ref (B + 0), .int t, .int a, .int b, .int c, .int d])).length) Slot.unset).toArray = ls at hl ⊢
  have hl : lv_has ls 7 [(0, .ref (B + 0)), (1, .int t), (2, .int a), (3, .int b), (4, .int c), (5, .int d)] := hl
  have frm : ∀ j : Nat, j < 48 → j ≠ 0 → j ≠ 7 → j ≠ 8 → j ≠ 10 → j ≠ 11 → w j = w j := fun j _ _ _ _ _ _ => rfl
  obtain ⟨m1, m2, m3, m4, m5, m6⟩ := hnn
  refine lv_aload_n hx hb dX4_insert_0 rfl (lv_at hl 0 rfl) ?_
  refine lv_iload_n hx hb dX4_insert_1 rfl (lv_at hl 1 rfl) ?_
  refine kl_cVi (C := RX4) (i := 0) (As := [.int t]) (rest := []) ⟨hx, hb, hml, hown, hts⟩ (c_X4_isTable l G B _ t k0 (by omega)) (cwV 1 hts gX4_insert_X4_isTable rfl rfl rfl (by decide +kernel) ⟨Nat.le_of_ble_eq_true rfl, Nat.le_of_ble_eq_true rfl⟩) hK hP k0 rfl rfl hl.1 rfl (Nat.le_of_ble_eq_true rfl) dX4_insert_2 ⟨Nat.le_of_ble_eq_true rfl, Nat.le_of_ble_eq_true rfl⟩ (fun r3 w1 H locs q2 hP => ?_)
  obtain ⟨rfl, hv4⟩ := q2
  refine kl_ifeq (tgt := 16) hx hb hv4 dX4_insert_5 (by decide) (fun c5 => ?_) (fun c5 => ?_)
  · refine lv_iconst (v := nI 0) hx hb dX4_insert_16 (by decide) ?_
    refine klx_cSv (As := [.int (nI 0)]) (rest := []) ⟨hx, hb, hml, hown, hts⟩ (c_X4_needArgument l hst G B _ (nI 0) (kl_b.f (P := False) not_false)) (va_cwS 1 hts gX4_insert_X4_needArgument rfl rfl rfl (by decide +kernel) ⟨Nat.le_of_ble_eq_true rfl, Nat.le_of_ble_eq_true rfl⟩) hK hZ hP rfl hl.1 rfl (Nat.le_of_ble_eq_true rfl) dX4_insert_17 ⟨Nat.le_of_ble_eq_true rfl, Nat.le_of_ble_eq_true rfl⟩ (fun E ce q9 w9 H locs hpx hP h9 hv9 hc9 => kl_out hout hlocks hP (Or.inl ⟨hpx.1, hpx.2.1.symm, fun z => c5 z.1⟩) h9 hv9 hc9 (Nat.le_of_ble_eq_true rfl) (Nat.le_of_ble_eq_true rfl)) (fun w5 H locs q6 hP => ?_)
    exact (q6.2).elim
  · refine lv_iload_n hx hb dX4_insert_8 rfl (lv_at hl 2 rfl) ?_
    refine lv_if_eq (tgt := 16) hx hb dX4_insert_9 (by decide) (fun c9 => ?_) (fun c9 => ?_)
    · refine lv_iconst (v := nI 0) hx hb dX4_insert_16 (by decide) ?_
      refine klx_cSv (As := [.int (nI 0)]) (rest := []) ⟨hx, hb, hml, hown, hts⟩ (c_X4_needArgument l hst G B _ (nI 0) (kl_b.f (P := False) not_false)) (va_cwS 1 hts gX4_insert_X4_needArgument rfl rfl rfl (by decide +kernel) ⟨Nat.le_of_ble_eq_true rfl, Nat.le_of_ble_eq_true rfl⟩) hK hZ hP rfl hl.1 rfl (Nat.le_of_ble_eq_true rfl) dX4_insert_17 ⟨Nat.le_of_ble_eq_true rfl, Nat.le_of_ble_eq_true rfl⟩ (fun E ce q9 w9 H locs hpx hP h9 hv9 hc9 => kl_out hout hlocks hP (Or.inl ⟨hpx.1, hpx.2.1.symm, fun z => z.2 c9⟩) h9 hv9 hc9 (Nat.le_of_ble_eq_true rfl) (Nat.le_of_ble_eq_true rfl)) (fun w8 H locs q9 hP => ?_)
      exact (q9.2).elim
    · refine lv_iconst (v := nI 1) hx hb dX4_insert_12 (by decide) ?_
      refine lv_goto (tgt := 17) hx hb dX4_insert_13 (by decide) ?_
      refine klx_cSv (As := [.int (nI 1)]) (rest := []) ⟨hx, hb, hml, hown, hts⟩ (c_X4_needArgument l hst G B _ (nI 1) (kl_b.t (P := True) trivial)) (va_cwS 1 hts gX4_insert_X4_needArgument rfl rfl rfl (by decide +kernel) ⟨Nat.le_of_ble_eq_true rfl, Nat.le_of_ble_eq_true rfl⟩) hK hZ hP rfl hl.1 rfl (Nat.le_of_ble_eq_true rfl) dX4_insert_17 ⟨Nat.le_of_ble_eq_true rfl, Nat.le_of_ble_eq_true rfl⟩ (fun _ _ _ _ _ _ hpx _ _ _ _ => (hpx.2.2 trivial).elim) (fun w11 H locs q12 hP => ?_)
      obtain ⟨rfl, ok14⟩ := q12
      have hok : (mt_tab t nT ∧ a ≠ 0) := ⟨c5, c9⟩
      refine lv_aload_n hx hb dX4_insert_20 rfl (lv_at hl 0 rfl) ?_
      refine kl_get (C := RX4) (T := TX4) (N := 16) (ci := 4) hx hb hts hinX4 hown hK hP k0 rfl 10 (by decide) (hts (.fieldLink RX4 53 "KinLedger" "rows" "LKinLedger$Rows;") (by decide +kernel)) (fun _ h9 => h9) rfl dX4_insert_21 ?_
      refine kl_cVi (C := RX2) (i := 6) (As := []) (rest := []) ⟨hx, hb, hml, hown, hts⟩ (c_X2_freePlace l G B _ 6 7 8  k6 k7 k8 ) (cwV 0 hts gX4_insert_X2_freePlace rfl rfl rfl (by decide +kernel) ⟨Nat.le_of_ble_eq_true rfl, Nat.le_of_ble_eq_true rfl⟩) hK hP k6 rfl rfl hl.1 rfl (Nat.le_of_ble_eq_true rfl) dX4_insert_24 ⟨Nat.le_of_ble_eq_true rfl, Nat.le_of_ble_eq_true rfl⟩ (fun r17 w15 H locs q16 hP => ?_)
      obtain ⟨rfl, hv18⟩ := q16
      rcases hv18 with ⟨rfl, hv18⟩ | ⟨p19, hp19, rfl, hv18⟩
      · refine lv_istore (lv' := [(6, .int ((-1))), (0, .ref (B + 0)), (1, .int t), (2, .int a), (3, .int b), (4, .int c), (5, .int d)]) hx hb dX4_insert_27 hl (by decide) rfl (fun ls hl => ?_)
        refine lv_iload hx hb dX4_insert_29 (lv_at hl 0 rfl) ?_
        refine lv_iconst (v := (-1)) hx hb dX4_insert_31 (by decide) ?_
        refine lv_icmp_eq (tgt := 39) hx hb dX4_insert_32 (by decide) (fun c32 => ?_) (fun c32 => absurd rfl c32)
        refine lv_iconst (v := nI 0) hx hb dX4_insert_39 (by decide) ?_
        refine klx_cSv (As := [.int (nI 0)]) (rest := []) ⟨hx, hb, hml, hown, hts⟩ (c_X4_needElement l hst G B _ (nI 0) (kl_b.f (P := False) not_false)) (va_cwS 1 hts gX4_insert_X4_needElement rfl rfl rfl (by decide +kernel) ⟨Nat.le_of_ble_eq_true rfl, Nat.le_of_ble_eq_true rfl⟩) hK hZ hP rfl hl.1 rfl (Nat.le_of_ble_eq_true rfl) dX4_insert_40 ⟨Nat.le_of_ble_eq_true rfl, Nat.le_of_ble_eq_true rfl⟩ (fun E ce q9 w9 H locs hpx hP h9 hv9 hc9 => kl_out hout hlocks hP (Or.inr (Or.inl ⟨hpx.1, hpx.2.1.symm, hok, hv18⟩)) h9 hv9 hc9 (Nat.le_of_ble_eq_true rfl) (Nat.le_of_ble_eq_true rfl)) (fun w20 H locs q21 hP => ?_)
        exact (q21.2).elim
      · refine lv_istore (lv' := [(6, .int (nI p19)), (0, .ref (B + 0)), (1, .int t), (2, .int a), (3, .int b), (4, .int c), (5, .int d)]) hx hb dX4_insert_27 hl (by decide) rfl (fun ls hl => ?_)
        refine lv_iload hx hb dX4_insert_29 (lv_at hl 0 rfl) ?_
        refine lv_iconst (v := (-1)) hx hb dX4_insert_31 (by decide) ?_
        refine lv_icmp_eq (tgt := 39) hx hb dX4_insert_32 (by decide) (fun c32 => absurd c32 (kl_nm1 (by omega))) (fun c32 => ?_)
        refine lv_iconst (v := nI 1) hx hb dX4_insert_35 (by decide) ?_
        refine lv_goto (tgt := 40) hx hb dX4_insert_36 (by decide) ?_
        refine klx_cSv (As := [.int (nI 1)]) (rest := []) ⟨hx, hb, hml, hown, hts⟩ (c_X4_needElement l hst G B _ (nI 1) (kl_b.t (P := True) trivial)) (va_cwS 1 hts gX4_insert_X4_needElement rfl rfl rfl (by decide +kernel) ⟨Nat.le_of_ble_eq_true rfl, Nat.le_of_ble_eq_true rfl⟩) hK hZ hP rfl hl.1 rfl (Nat.le_of_ble_eq_true rfl) dX4_insert_40 ⟨Nat.le_of_ble_eq_true rfl, Nat.le_of_ble_eq_true rfl⟩ (fun _ _ _ _ _ _ hpx _ _ _ _ => (hpx.2.2 trivial).elim) (fun w23 H locs q24 hP => ?_)
        obtain ⟨rfl, ok26⟩ := q24
        refine lv_aload_n hx hb dX4_insert_43 rfl (lv_at hl 1 rfl) ?_
        refine kl_get (C := RX4) (T := TX4) (N := 16) (ci := 4) hx hb hts hinX4 hown hK hP k0 rfl 11 (by decide) (hts (.fieldLink RX4 57 "KinLedger" "draft" "LKinLedger$Rows;") (by decide +kernel)) (fun _ h9 => h9) rfl dX4_insert_44 ?_
        refine lv_aload_n hx hb dX4_insert_47 rfl (lv_at hl 1 rfl) ?_
        refine kl_get (C := RX4) (T := TX4) (N := 16) (ci := 4) hx hb hts hinX4 hown hK hP k0 rfl 10 (by decide) (hts (.fieldLink RX4 53 "KinLedger" "rows" "LKinLedger$Rows;") (by decide +kernel)) (fun _ h9 => h9) rfl dX4_insert_48 ?_
        refine kl_cVv (C := RX2) (i := 9) (As := [.ref (B + 6)]) (rest := []) ⟨hx, hb, hml, hown, hts⟩ (c_X2_become l G B _ 9 10 11 6 7 8 k9 k10 k11 k6 k7 k8 (by omega)) (cwV 1 hts gX4_insert_X2_become rfl rfl rfl (by decide +kernel) ⟨Nat.le_of_ble_eq_true rfl, Nat.le_of_ble_eq_true rfl⟩) hK hP k9 rfl rfl hl.1 rfl (Nat.le_of_ble_eq_true rfl) dX4_insert_51 ⟨Nat.le_of_ble_eq_true rfl, Nat.le_of_ble_eq_true rfl⟩ (fun w27 H locs q28 hP => ?_)
        obtain ⟨f30, f31, fr32⟩ := q28
        have k0 : w27 0 = some (.inr (4, [.ref (B + 1), .int (nI nT), .ref (B + 2), .int (nI nL), .ref (B + 3), .int (nI nS), .ref (B + 4), .int (nI nC), .ref (B + 5), .int (nI nW), .ref (B + 6), .ref (B + 9), .ref (B + 12), .int (nI nM), .ref (B + 13), .int rs])) := (fr32 _ (by decide) (by decide)).trans k0
        have k2 : w27 2 = some (kl_aR G 3 6 lf) := (fr32 _ (by decide) (by decide)).trans k2
        have k3 : w27 3 = some (kl_aR G 4 4 sf) := (fr32 _ (by decide) (by decide)).trans k3
        have k4 : w27 4 = some (kl_aR G 5 4 cf) := (fr32 _ (by decide) (by decide)).trans k4
        have k6 : w27 6 = some (.inr (2, [.ref (B + 7), .ref (B + 8)])) := (fr32 _ (by decide) (by decide)).trans k6
        have k7 : w27 7 = some (kl_aI G 24 T) := (fr32 _ (by decide) (by decide)).trans k7
        have k8 : w27 8 = some (kl_aI G 96 C) := (fr32 _ (by decide) (by decide)).trans k8
        have k9 : w27 9 = some (.inr (2, [.ref (B + 10), .ref (B + 11)])) := (fr32 _ (by decide) (by decide)).trans k9
        have hru := kl_RU.mv hru (fun j hj => fr32 j (by omega) (by omega))
        have frm : ∀ j : Nat, j < 48 → j ≠ 0 → j ≠ 7 → j ≠ 8 → j ≠ 10 → j ≠ 11 → w27 j = w j := fun j hj k0 k1 k2 k3 k4 => (fr32 j k3 k4).trans (frm j hj k0 k1 k2 k3 k4)
        refine lv_aload_n hx hb dX4_insert_54 rfl (lv_at hl 1 rfl) ?_
        refine kl_get (C := RX4) (T := TX4) (N := 16) (ci := 4) hx hb hts hinX4 hown hK hP k0 rfl 11 (by decide) (hts (.fieldLink RX4 57 "KinLedger" "draft" "LKinLedger$Rows;") (by decide +kernel)) (fun _ h9 => h9) rfl dX4_insert_55 ?_
        refine lv_iload hx hb dX4_insert_58 (lv_at hl 0 rfl) ?_
        refine lv_iload_n hx hb dX4_insert_60 rfl (lv_at hl 2 rfl) ?_
        refine kl_cVv (C := RX2) (i := 9) (As := [.int (nI p19), .int t]) (rest := []) ⟨hx, hb, hml, hown, hts⟩ (c_X2_add l G B _ 9 10 11 p19 t k9 f30 f31 (by omega) (by omega) (by omega)) (cwV 2 hts gX4_insert_X2_add rfl rfl rfl (by decide +kernel) ⟨Nat.le_of_ble_eq_true rfl, Nat.le_of_ble_eq_true rfl⟩) hK hP k9 rfl rfl hl.1 rfl (Nat.le_of_ble_eq_true rfl) dX4_insert_61 ⟨Nat.le_of_ble_eq_true rfl, Nat.le_of_ble_eq_true rfl⟩ (fun w33 H locs q34 hP => ?_)
        obtain ⟨f36, fr37⟩ := q34
        have f36 : w33 10 = some (kl_aI G 24 (upd T p19 t)) := f36
        have k0 : w33 0 = some (.inr (4, [.ref (B + 1), .int (nI nT), .ref (B + 2), .int (nI nL), .ref (B + 3), .int (nI nS), .ref (B + 4), .int (nI nC), .ref (B + 5), .int (nI nW), .ref (B + 6), .ref (B + 9), .ref (B + 12), .int (nI nM), .ref (B + 13), .int rs])) := (fr37 _ (by decide)).trans k0
        have k2 : w33 2 = some (kl_aR G 3 6 lf) := (fr37 _ (by decide)).trans k2
        have k3 : w33 3 = some (kl_aR G 4 4 sf) := (fr37 _ (by decide)).trans k3
        have k4 : w33 4 = some (kl_aR G 5 4 cf) := (fr37 _ (by decide)).trans k4
        have k6 : w33 6 = some (.inr (2, [.ref (B + 7), .ref (B + 8)])) := (fr37 _ (by decide)).trans k6
        have k7 : w33 7 = some (kl_aI G 24 T) := (fr37 _ (by decide)).trans k7
        have k8 : w33 8 = some (kl_aI G 96 C) := (fr37 _ (by decide)).trans k8
        have k9 : w33 9 = some (.inr (2, [.ref (B + 10), .ref (B + 11)])) := (fr37 _ (by decide)).trans k9
        have f31 : w33 11 = some (kl_aI G 96 C) := (fr37 _ (by decide)).trans f31
        have hru := kl_RU.mv hru (fun j hj => fr37 j (by omega))
        have frm : ∀ j : Nat, j < 48 → j ≠ 0 → j ≠ 7 → j ≠ 8 → j ≠ 10 → j ≠ 11 → w33 j = w j := fun j hj k0 k1 k2 k3 k4 => (fr37 j k3).trans (frm j hj k0 k1 k2 k3 k4)
        refine lv_aload_n hx hb dX4_insert_64 rfl (lv_at hl 1 rfl) ?_
        refine kl_get (C := RX4) (T := TX4) (N := 16) (ci := 4) hx hb hts hinX4 hown hK hP k0 rfl 11 (by decide) (hts (.fieldLink RX4 57 "KinLedger" "draft" "LKinLedger$Rows;") (by decide +kernel)) (fun _ h9 => h9) rfl dX4_insert_65 ?_
        refine lv_iload hx hb dX4_insert_68 (lv_at hl 0 rfl) ?_
        refine lv_iconst (v := nI 0) hx hb dX4_insert_70 (by decide) ?_
        refine lv_iload_n hx hb dX4_insert_71 rfl (lv_at hl 3 rfl) ?_
        refine kl_cVv (C := RX2) (i := 9) (As := [.int (nI p19), .int (nI 0), .int a]) (rest := []) ⟨hx, hb, hml, hown, hts⟩ (c_X2_put l G B _ 9 10 11 p19 0 a k9 f36 f31 (by omega) (by omega) (by omega) (by omega)) (cwV 3 hts gX4_insert_X2_put rfl rfl rfl (by decide +kernel) ⟨Nat.le_of_ble_eq_true rfl, Nat.le_of_ble_eq_true rfl⟩) hK hP k9 rfl rfl hl.1 rfl (Nat.le_of_ble_eq_true rfl) dX4_insert_72 ⟨Nat.le_of_ble_eq_true rfl, Nat.le_of_ble_eq_true rfl⟩ (fun w38 H locs q39 hP => ?_)
        obtain ⟨f41, fr42⟩ := q39
        have f41 : w38 11 = some (kl_aI G 96 (upd C (4 * p19) a)) := f41
        have k0 : w38 0 = some (.inr (4, [.ref (B + 1), .int (nI nT), .ref (B + 2), .int (nI nL), .ref (B + 3), .int (nI nS), .ref (B + 4), .int (nI nC), .ref (B + 5), .int (nI nW), .ref (B + 6), .ref (B + 9), .ref (B + 12), .int (nI nM), .ref (B + 13), .int rs])) := (fr42 _ (by decide)).trans k0
        have k2 : w38 2 = some (kl_aR G 3 6 lf) := (fr42 _ (by decide)).trans k2
        have k3 : w38 3 = some (kl_aR G 4 4 sf) := (fr42 _ (by decide)).trans k3
        have k4 : w38 4 = some (kl_aR G 5 4 cf) := (fr42 _ (by decide)).trans k4
        have k6 : w38 6 = some (.inr (2, [.ref (B + 7), .ref (B + 8)])) := (fr42 _ (by decide)).trans k6
        have k7 : w38 7 = some (kl_aI G 24 T) := (fr42 _ (by decide)).trans k7
        have k8 : w38 8 = some (kl_aI G 96 C) := (fr42 _ (by decide)).trans k8
        have k9 : w38 9 = some (.inr (2, [.ref (B + 10), .ref (B + 11)])) := (fr42 _ (by decide)).trans k9
        have f36 : w38 10 = some (kl_aI G 24 (upd T p19 t)) := (fr42 _ (by decide)).trans f36
        have hru := kl_RU.mv hru (fun j hj => fr42 j (by omega))
        have frm : ∀ j : Nat, j < 48 → j ≠ 0 → j ≠ 7 → j ≠ 8 → j ≠ 10 → j ≠ 11 → w38 j = w j := fun j hj k0 k1 k2 k3 k4 => (fr42 j k4).trans (frm j hj k0 k1 k2 k3 k4)
        refine lv_aload_n hx hb dX4_insert_75 rfl (lv_at hl 1 rfl) ?_
        refine kl_get (C := RX4) (T := TX4) (N := 16) (ci := 4) hx hb hts hinX4 hown hK hP k0 rfl 11 (by decide) (hts (.fieldLink RX4 57 "KinLedger" "draft" "LKinLedger$Rows;") (by decide +kernel)) (fun _ h9 => h9) rfl dX4_insert_76 ?_
        refine lv_iload hx hb dX4_insert_79 (lv_at hl 0 rfl) ?_
        refine lv_iconst (v := nI 1) hx hb dX4_insert_81 (by decide) ?_
        refine lv_iload_n hx hb dX4_insert_82 rfl (lv_at hl 4 rfl) ?_
        refine kl_cVv (C := RX2) (i := 9) (As := [.int (nI p19), .int (nI 1), .int b]) (rest := []) ⟨hx, hb, hml, hown, hts⟩ (c_X2_put l G B _ 9 10 11 p19 1 b k9 f36 f41 (by omega) (by omega) (by omega) (by omega)) (cwV 3 hts gX4_insert_X2_put rfl rfl rfl (by decide +kernel) ⟨Nat.le_of_ble_eq_true rfl, Nat.le_of_ble_eq_true rfl⟩) hK hP k9 rfl rfl hl.1 rfl (Nat.le_of_ble_eq_true rfl) dX4_insert_83 ⟨Nat.le_of_ble_eq_true rfl, Nat.le_of_ble_eq_true rfl⟩ (fun w43 H locs q44 hP => ?_)
        obtain ⟨f46, fr47⟩ := q44
        have f46 : w43 11 = some (kl_aI G 96 (upd (upd C (4 * p19) a) (4 * p19 + 1) b)) := f46
        have k0 : w43 0 = some (.inr (4, [.ref (B + 1), .int (nI nT), .ref (B + 2), .int (nI nL), .ref (B + 3), .int (nI nS), .ref (B + 4), .int (nI nC), .ref (B + 5), .int (nI nW), .ref (B + 6), .ref (B + 9), .ref (B + 12), .int (nI nM), .ref (B + 13), .int rs])) := (fr47 _ (by decide)).trans k0
        have k2 : w43 2 = some (kl_aR G 3 6 lf) := (fr47 _ (by decide)).trans k2
        have k3 : w43 3 = some (kl_aR G 4 4 sf) := (fr47 _ (by decide)).trans k3
        have k4 : w43 4 = some (kl_aR G 5 4 cf) := (fr47 _ (by decide)).trans k4
        have k6 : w43 6 = some (.inr (2, [.ref (B + 7), .ref (B + 8)])) := (fr47 _ (by decide)).trans k6
        have k7 : w43 7 = some (kl_aI G 24 T) := (fr47 _ (by decide)).trans k7
        have k8 : w43 8 = some (kl_aI G 96 C) := (fr47 _ (by decide)).trans k8
        have k9 : w43 9 = some (.inr (2, [.ref (B + 10), .ref (B + 11)])) := (fr47 _ (by decide)).trans k9
        have f36 : w43 10 = some (kl_aI G 24 (upd T p19 t)) := (fr47 _ (by decide)).trans f36
        have hru := kl_RU.mv hru (fun j hj => fr47 j (by omega))
        have frm : ∀ j : Nat, j < 48 → j ≠ 0 → j ≠ 7 → j ≠ 8 → j ≠ 10 → j ≠ 11 → w43 j = w j := fun j hj k0 k1 k2 k3 k4 => (fr47 j k4).trans (frm j hj k0 k1 k2 k3 k4)
        refine lv_aload_n hx hb dX4_insert_86 rfl (lv_at hl 1 rfl) ?_
        refine kl_get (C := RX4) (T := TX4) (N := 16) (ci := 4) hx hb hts hinX4 hown hK hP k0 rfl 11 (by decide) (hts (.fieldLink RX4 57 "KinLedger" "draft" "LKinLedger$Rows;") (by decide +kernel)) (fun _ h9 => h9) rfl dX4_insert_87 ?_
        refine lv_iload hx hb dX4_insert_90 (lv_at hl 0 rfl) ?_
        refine lv_iconst (v := nI 2) hx hb dX4_insert_92 (by decide) ?_
        refine lv_iload hx hb dX4_insert_93 (lv_at hl 5 rfl) ?_
        refine kl_cVv (C := RX2) (i := 9) (As := [.int (nI p19), .int (nI 2), .int c]) (rest := []) ⟨hx, hb, hml, hown, hts⟩ (c_X2_put l G B _ 9 10 11 p19 2 c k9 f36 f46 (by omega) (by omega) (by omega) (by omega)) (cwV 3 hts gX4_insert_X2_put rfl rfl rfl (by decide +kernel) ⟨Nat.le_of_ble_eq_true rfl, Nat.le_of_ble_eq_true rfl⟩) hK hP k9 rfl rfl hl.1 rfl (Nat.le_of_ble_eq_true rfl) dX4_insert_95 ⟨Nat.le_of_ble_eq_true rfl, Nat.le_of_ble_eq_true rfl⟩ (fun w48 H locs q49 hP => ?_)
        obtain ⟨f51, fr52⟩ := q49
        have f51 : w48 11 = some (kl_aI G 96 (upd (upd (upd C (4 * p19) a) (4 * p19 + 1) b) (4 * p19 + 2) c)) := f51
        have k0 : w48 0 = some (.inr (4, [.ref (B + 1), .int (nI nT), .ref (B + 2), .int (nI nL), .ref (B + 3), .int (nI nS), .ref (B + 4), .int (nI nC), .ref (B + 5), .int (nI nW), .ref (B + 6), .ref (B + 9), .ref (B + 12), .int (nI nM), .ref (B + 13), .int rs])) := (fr52 _ (by decide)).trans k0
        have k2 : w48 2 = some (kl_aR G 3 6 lf) := (fr52 _ (by decide)).trans k2
        have k3 : w48 3 = some (kl_aR G 4 4 sf) := (fr52 _ (by decide)).trans k3
        have k4 : w48 4 = some (kl_aR G 5 4 cf) := (fr52 _ (by decide)).trans k4
        have k6 : w48 6 = some (.inr (2, [.ref (B + 7), .ref (B + 8)])) := (fr52 _ (by decide)).trans k6
        have k7 : w48 7 = some (kl_aI G 24 T) := (fr52 _ (by decide)).trans k7
        have k8 : w48 8 = some (kl_aI G 96 C) := (fr52 _ (by decide)).trans k8
        have k9 : w48 9 = some (.inr (2, [.ref (B + 10), .ref (B + 11)])) := (fr52 _ (by decide)).trans k9
        have f36 : w48 10 = some (kl_aI G 24 (upd T p19 t)) := (fr52 _ (by decide)).trans f36
        have hru := kl_RU.mv hru (fun j hj => fr52 j (by omega))
        have frm : ∀ j : Nat, j < 48 → j ≠ 0 → j ≠ 7 → j ≠ 8 → j ≠ 10 → j ≠ 11 → w48 j = w j := fun j hj k0 k1 k2 k3 k4 => (fr52 j k4).trans (frm j hj k0 k1 k2 k3 k4)
        refine lv_aload_n hx hb dX4_insert_98 rfl (lv_at hl 1 rfl) ?_
        refine kl_get (C := RX4) (T := TX4) (N := 16) (ci := 4) hx hb hts hinX4 hown hK hP k0 rfl 11 (by decide) (hts (.fieldLink RX4 57 "KinLedger" "draft" "LKinLedger$Rows;") (by decide +kernel)) (fun _ h9 => h9) rfl dX4_insert_99 ?_
        refine lv_iload hx hb dX4_insert_102 (lv_at hl 0 rfl) ?_
        refine lv_iconst (v := nI 3) hx hb dX4_insert_104 (by decide) ?_
        refine lv_iload hx hb dX4_insert_105 (lv_at hl 6 rfl) ?_
        refine kl_cVv (C := RX2) (i := 9) (As := [.int (nI p19), .int (nI 3), .int d]) (rest := []) ⟨hx, hb, hml, hown, hts⟩ (c_X2_put l G B _ 9 10 11 p19 3 d k9 f36 f51 (by omega) (by omega) (by omega) (by omega)) (cwV 3 hts gX4_insert_X2_put rfl rfl rfl (by decide +kernel) ⟨Nat.le_of_ble_eq_true rfl, Nat.le_of_ble_eq_true rfl⟩) hK hP k9 rfl rfl hl.1 rfl (Nat.le_of_ble_eq_true rfl) dX4_insert_107 ⟨Nat.le_of_ble_eq_true rfl, Nat.le_of_ble_eq_true rfl⟩ (fun w53 H locs q54 hP => ?_)
        obtain ⟨f56, fr57⟩ := q54
        have f56 : w53 11 = some (kl_aI G 96 (upd (upd (upd (upd C (4 * p19) a) (4 * p19 + 1) b) (4 * p19 + 2) c) (4 * p19 + 3) d)) := f56
        have k0 : w53 0 = some (.inr (4, [.ref (B + 1), .int (nI nT), .ref (B + 2), .int (nI nL), .ref (B + 3), .int (nI nS), .ref (B + 4), .int (nI nC), .ref (B + 5), .int (nI nW), .ref (B + 6), .ref (B + 9), .ref (B + 12), .int (nI nM), .ref (B + 13), .int rs])) := (fr57 _ (by decide)).trans k0
        have k2 : w53 2 = some (kl_aR G 3 6 lf) := (fr57 _ (by decide)).trans k2
        have k3 : w53 3 = some (kl_aR G 4 4 sf) := (fr57 _ (by decide)).trans k3
        have k4 : w53 4 = some (kl_aR G 5 4 cf) := (fr57 _ (by decide)).trans k4
        have k6 : w53 6 = some (.inr (2, [.ref (B + 7), .ref (B + 8)])) := (fr57 _ (by decide)).trans k6
        have k7 : w53 7 = some (kl_aI G 24 T) := (fr57 _ (by decide)).trans k7
        have k8 : w53 8 = some (kl_aI G 96 C) := (fr57 _ (by decide)).trans k8
        have k9 : w53 9 = some (.inr (2, [.ref (B + 10), .ref (B + 11)])) := (fr57 _ (by decide)).trans k9
        have f36 : w53 10 = some (kl_aI G 24 (upd T p19 t)) := (fr57 _ (by decide)).trans f36
        have hru := kl_RU.mv hru (fun j hj => fr57 j (by omega))
        have frm : ∀ j : Nat, j < 48 → j ≠ 0 → j ≠ 7 → j ≠ 8 → j ≠ 10 → j ≠ 11 → w53 j = w j := fun j hj k0 k1 k2 k3 k4 => (fr57 j k4).trans (frm j hj k0 k1 k2 k3 k4)
        refine lv_aload_n hx hb dX4_insert_110 rfl (lv_at hl 1 rfl) ?_
        refine lv_iconst (v := (-1)) hx hb dX4_insert_111 (by decide) ?_
        refine klx_cVv (C := RX4) (i := 0) (As := [.int ((-1))]) (rest := []) ⟨hx, hb, hml, hown, hts⟩ (c_X4_settle l hst G B _ ((-1)) k0 k2 k3 k4 k6 k7 k8 k9 f36 f56 ⟨by omega, by omega, by omega, by omega, by omega, by omega⟩ hru (Or.inl rfl)) (cwV 1 hts gX4_insert_X4_settle rfl rfl rfl (by decide +kernel) ⟨Nat.le_of_ble_eq_true rfl, Nat.le_of_ble_eq_true rfl⟩) hK hZ hP k0 rfl rfl hl.1 rfl (Nat.le_of_ble_eq_true rfl) dX4_insert_112 ⟨Nat.le_of_ble_eq_true rfl, Nat.le_of_ble_eq_true rfl⟩ (fun E ce q9 w9 H locs hpx hP h9 hv9 hc9 => kl_out hout hlocks hP (by obtain ⟨hE, r9, hr0, hst9, h09, hru9, hfr9⟩ := hpx; exact Or.inr (Or.inr ⟨hE, hok, p19, hp19, hv18, r9, hr0, hst9, h09, hru9, (hfr9 7 (by decide) (by decide)).trans k7, (hfr9 8 (by decide) (by decide)).trans k8, ⟨_, _, (hfr9 10 (by decide) (by decide)).trans f36, (hfr9 11 (by decide) (by decide)).trans f56⟩, fun j hj k0 k1 k2 k3 k4 => (hfr9 j hj k0).trans (frm j hj k0 k1 k2 k3 k4)⟩)) h9 hv9 hc9 (Nat.le_of_ble_eq_true rfl) (Nat.le_of_ble_eq_true rfl)) (fun w58 H locs q59 hP => ?_)
        obtain ⟨hst9, hru, f61, f62, fr63⟩ := q59
        have k0 : w58 0 = some (.inr (4, [.ref (B + 1), .int (nI nT), .ref (B + 2), .int (nI nL), .ref (B + 3), .int (nI nS), .ref (B + 4), .int (nI nC), .ref (B + 5), .int (nI nW), .ref (B + 6), .ref (B + 9), .ref (B + 12), .int (nI nM), .ref (B + 13), .int rs])) := (fr63 _ (by decide) (by decide) (by decide)).trans k0
        have k2 : w58 2 = some (kl_aR G 3 6 lf) := (fr63 _ (by decide) (by decide) (by decide)).trans k2
        have k3 : w58 3 = some (kl_aR G 4 4 sf) := (fr63 _ (by decide) (by decide) (by decide)).trans k3
        have k4 : w58 4 = some (kl_aR G 5 4 cf) := (fr63 _ (by decide) (by decide) (by decide)).trans k4
        have k6 : w58 6 = some (.inr (2, [.ref (B + 7), .ref (B + 8)])) := (fr63 _ (by decide) (by decide) (by decide)).trans k6
        have k9 : w58 9 = some (.inr (2, [.ref (B + 10), .ref (B + 11)])) := (fr63 _ (by decide) (by decide) (by decide)).trans k9
        have f36 : w58 10 = some (kl_aI G 24 (upd T p19 t)) := (fr63 _ (by decide) (by decide) (by decide)).trans f36
        have f56 : w58 11 = some (kl_aI G 96 (upd (upd (upd (upd C (4 * p19) a) (4 * p19 + 1) b) (4 * p19 + 2) c) (4 * p19 + 3) d)) := (fr63 _ (by decide) (by decide) (by decide)).trans f56
        have frm : ∀ j : Nat, j < 48 → j ≠ 0 → j ≠ 7 → j ≠ 8 → j ≠ 10 → j ≠ 11 → w58 j = w j := fun j hj k0 k1 k2 k3 k4 => (fr63 j hj k1 k2).trans (frm j hj k0 k1 k2 k3 k4)
        refine W.widen (k := 3) (n := 18) (by omega) (by omega) ?_
        refine vx_ret ?_
        exact kl_vret hx hb hr hlocks hP ⟨hok, p19, hp19, hv18, hst9, k0, hru, f61, f62, ⟨_, _, f36, f56⟩, frm⟩ dX4_insert_115

abbrev rm_X4_delete : Room := { frames := 8, cells := 2, slots := 12, locals := 135 }
set_option maxHeartbeats 4000000 in
set_option maxRecDepth 100000 in
theorem c_X4_delete (l : Launch) (hst : l.stackTraces = false) (G : kl_G) (B : Nat) (w : kl_M) {nT nW nM : Nat} {rs : Int32} {nL nS nC : Nat} {lf sf cf : Nat → Option Nat} {la : Nat → Nat} {lch : Nat → Int32} {lco : Nat → Nat} {lpa lwy : Nat → Int32} {sa : Nat → Nat} {stb : Nat → Int32} {sco ca cwa cpa : Nat → Nat} {ctb : Nat → Int32} {cln : Nat → Nat} {cwd : Nat → Nat → Nat} {ccol : Nat → Nat} {cn : Nat → Nat} {T C dT dC gg : Nat → Int32} (t c x : Int32) (k0 : w 0 = some (.inr (4, [.ref (B + 1), .int (nI nT), .ref (B + 2), .int (nI nL), .ref (B + 3), .int (nI nS), .ref (B + 4), .int (nI nC), .ref (B + 5), .int (nI nW), .ref (B + 6), .ref (B + 9), .ref (B + 12), .int (nI nM), .ref (B + 13), .int rs]))) (k1 : w 1 = some (kl_aI G 4 ((fun t => nI (cn t))))) (k2 : w 2 = some (kl_aR G 3 6 lf)) (k3 : w 3 = some (kl_aR G 4 4 sf)) (k4 : w 4 = some (kl_aR G 5 4 cf)) (k6 : w 6 = some (.inr (2, [.ref (B + 7), .ref (B + 8)]))) (k7 : w 7 = some (kl_aI G 24 T)) (k8 : w 8 = some (kl_aI G 96 C)) (k9 : w 9 = some (.inr (2, [.ref (B + 10), .ref (B + 11)]))) (k10 : w 10 = some (kl_aI G 24 dT)) (k11 : w 11 = some (kl_aI G 96 dC)) (k13 : w 13 = some (kl_aZ G 24 gg)) (hnn : nT ≤ 4 ∧ nL ≤ 6 ∧ nS ≤ 4 ∧ nC ≤ 4 ∧ nW ≤ 10 ∧ nM ≤ 4) (hru : kl_RU G B w nL lf la lch lco lpa lwy nS sf sa stb sco nC cf ca cwa cpa ctb cln cwd ccol) (hcn4 : ∀ j, j < nT → cn j ≤ 4) (hu : mt_uniq T C) (hpar : ∀ l, l < nL → lpa l ≠ -1) : vx_Met l yX4_delete wsX4_delete rm_X4_delete (kl_Px G B w [.ref (B + 0), .int t, .int c, .int x]) (kl_Qi G B (fun r w1 => mt_col t c nT cn ∧ ∃ q g1 g2 d2 kp, q < 4 ∧ c = nI q ∧ (∀ p, p < 24 → mt_mark T C t q x p (g1 p)) ∧ mt_from T C nL lch lco lpa lwy g1 g2 ∧ (∀ l p, p < 24 → l < nL → mt_chk T C g2 lch lco lpa lwy l p) ∧ mt_wr 24 (fun l _ => l < nL) (fun l p => lwy l = nI 2 ∧ g2 p = 0 ∧ mt_lost T C g2 (lch l) (lco l) (lpa l) p) lco (fun _ => nI 0) C d2 ∧ mt_kp 24 (fun l _ => l < nL) (fun l p => lwy l = 0 ∧ g2 p = 0 ∧ mt_lost T C g2 (lch l) (lco l) (lpa l) p) kp ∧ r = nI (mt_gc 24 g2) ∧ mt_st kp (mt_why (mt_rm g2 T) d2 nT nS stb sco nL lch lco lpa nC ctb cwd cln) (nI 0) ∧ w1 0 = some (.inr (4, [.ref (B + 1), .int (nI nT), .ref (B + 2), .int (nI nL), .ref (B + 3), .int (nI nS), .ref (B + 4), .int (nI nC), .ref (B + 5), .int (nI nW), .ref (B + 6), .ref (B + 9), .ref (B + 12), .int (nI nM), .ref (B + 13), .int rs])) ∧ kl_RU G B w1 nL lf la lch lco lpa lwy nS sf sa stb sco nC cf ca cwa cpa ctb cln cwd ccol ∧ w1 7 = some (kl_aI G 24 (mt_rm g2 T)) ∧ w1 8 = some (kl_aI G 96 d2) ∧ kl_dr G w1 ∧ (∀ j : Nat, j < 48 → j ≠ 0 → j ≠ 7 → j ≠ 8 → j ≠ 10 → j ≠ 11 → j ≠ 13 → w1 j = w j) ∧ ∃ gg, w1 13 = some (kl_aZ G 24 gg))) (kl_X G B (fun E w1 => (E = "java/lang/IllegalArgumentException" ∧ w1 = w ∧ ¬ mt_col t c nT cn) ∨ (E = "java/lang/IllegalStateException" ∧ mt_col t c nT cn ∧ ∃ q g1 g2 d2 kp, q < 4 ∧ c = nI q ∧ (∀ p, p < 24 → mt_mark T C t q x p (g1 p)) ∧ mt_from T C nL lch lco lpa lwy g1 g2 ∧ (∀ l p, p < 24 → l < nL → mt_chk T C g2 lch lco lpa lwy l p) ∧ mt_wr 24 (fun l _ => l < nL) (fun l p => lwy l = nI 2 ∧ g2 p = 0 ∧ mt_lost T C g2 (lch l) (lco l) (lpa l) p) lco (fun _ => nI 0) C d2 ∧ mt_kp 24 (fun l _ => l < nL) (fun l p => lwy l = 0 ∧ g2 p = 0 ∧ mt_lost T C g2 (lch l) (lco l) (lpa l) p) kp ∧ (∃ gg, w1 13 = some (kl_aZ G 24 gg)) ∧ ∃ r, r ≠ 0 ∧ mt_st kp (mt_why (mt_rm g2 T) d2 nT nS stb sco nL lch lco lpa nC ctb cwd cln) r ∧ w1 0 = some (.inr (4, [.ref (B + 1), .int (nI nT), .ref (B + 2), .int (nI nL), .ref (B + 3), .int (nI nS), .ref (B + 4), .int (nI nC), .ref (B + 5), .int (nI nW), .ref (B + 6), .ref (B + 9), .ref (B + 12), .int (nI nM), .ref (B + 13), .int r])) ∧ kl_RU G B w1 nL lf la lch lco lpa lwy nS sf sa stb sco nC cf ca cwa cpa ctb cln cwd ccol ∧ w1 7 = some (kl_aI G 24 T) ∧ w1 8 = some (kl_aI G 96 C) ∧ kl_dr G w1 ∧ ∀ j : Nat, j < 48 → j ≠ 0 → j ≠ 7 → j ≠ 8 → j ≠ 10 → j ≠ 11 → j ≠ 13 → w1 j = w j))) 2 12 (kl_fr B) := by
  refine vx_ofW (cc := cX4_delete) (maxL := 6) (ret := (some .int)) (by decide) rfl ?_
  intro pg e s m args below meth cd s₁ Bd hml hout hv
  obtain ⟨rfl, hP0, hK, hZ⟩ := hv
  have hx := Bd.exec
  have hb := Bd.bytes
  have hr := Bd.returns
  have hts := atoms_spec (ws := wsX4_delete) Bd.pre
  have hown : s.vm.findClass RX4 = some m.cls := findClass_of_methodNamed Bd.named
  have hlocks := Bd.notSynchronized
  have hinX4 : ∀ w ∈ u_ws RX4 TX4 16, w ∈ wsX4_delete := by decide +kernel
  have hP := kl_S.rf hP0
  have hl := lv_entry ([.ref (B + 0), .int t, .int c, .int x]) (n := 6) (Nat.le_of_ble_eq_true rfl)
  rw [lg_entry_eq]
  generalize (lg_sl ([.ref (B + 0), .int t, .int c, .int x]) ++ List.replicate (6 - (lg_sl ([.ref (B + 0), .int t, .int c, .int x])).length) Slot.unset).toArray = ls at hl ⊢
  have hl : lv_has ls 6 [(0, .ref (B + 0)), (1, .int t), (2, .int c), (3, .int x)] := hl
  have frm : ∀ j : Nat, j < 48 → j ≠ 0 → j ≠ 7 → j ≠ 8 → j ≠ 10 → j ≠ 11 → j ≠ 13 → w j = w j := fun j _ _ _ _ _ _ _ => rfl
  obtain ⟨m1, m2, m3, m4, m5, m6⟩ := hnn
  refine lv_aload_n hx hb dX4_delete_0 rfl (lv_at hl 0 rfl) ?_
  refine lv_iload_n hx hb dX4_delete_1 rfl (lv_at hl 1 rfl) ?_
  refine lv_iload_n hx hb dX4_delete_2 rfl (lv_at hl 2 rfl) ?_
  refine kl_cVi (C := RX4) (i := 0) (As := [.int t, .int c]) (rest := []) ⟨hx, hb, hml, hown, hts⟩ (c_X4_isColumn l G B _ t c k0 k1 (by omega) hcn4) (cwV 2 hts gX4_delete_X4_isColumn rfl rfl rfl (by decide +kernel) ⟨Nat.le_of_ble_eq_true rfl, Nat.le_of_ble_eq_true rfl⟩) hK hP k0 rfl rfl hl.1 rfl (Nat.le_of_ble_eq_true rfl) dX4_delete_3 ⟨Nat.le_of_ble_eq_true rfl, Nat.le_of_ble_eq_true rfl⟩ (fun r3 w1 H locs q2 hP => ?_)
  obtain ⟨rfl, hv4⟩ := q2
  refine klx_cSv (As := [.int r3]) (rest := []) ⟨hx, hb, hml, hown, hts⟩ (c_X4_needArgument l hst G B _ r3 hv4) (va_cwS 1 hts gX4_delete_X4_needArgument rfl rfl rfl (by decide +kernel) ⟨Nat.le_of_ble_eq_true rfl, Nat.le_of_ble_eq_true rfl⟩) hK hZ hP rfl hl.1 rfl (Nat.le_of_ble_eq_true rfl) dX4_delete_6 ⟨Nat.le_of_ble_eq_true rfl, Nat.le_of_ble_eq_true rfl⟩ (fun E ce q9 w9 H locs hpx hP h9 hv9 hc9 => kl_out hout hlocks hP (Or.inl ⟨hpx.1, hpx.2.1.symm, hpx.2.2⟩) h9 hv9 hc9 (Nat.le_of_ble_eq_true rfl) (Nat.le_of_ble_eq_true rfl)) (fun w5 H locs q6 hP => ?_)
  obtain ⟨rfl, ok8⟩ := q6
  have hok := ok8
  obtain ⟨jj, q, hjj, -, hq4, hcq⟩ := ok8
  have hq5 := hcn4 jj hjj
  rw [hcq] at hl
  refine lv_aload_n hx hb dX4_delete_9 rfl (lv_at hl 0 rfl) ?_
  refine lv_iload_n hx hb dX4_delete_10 rfl (lv_at hl 1 rfl) ?_
  refine lv_iload_n hx hb dX4_delete_11 rfl (lv_at hl 2 rfl) ?_
  refine lv_iload_n hx hb dX4_delete_12 rfl (lv_at hl 3 rfl) ?_
  refine kl_cVv (C := RX4) (i := 0) (As := [.int t, .int (nI q), .int x]) (rest := []) ⟨hx, hb, hml, hown, hts⟩ (c_X4_markGoing l G B _ t q x k0 k13 k6 k7 k8 (by omega)) (cwV 3 hts gX4_delete_X4_markGoing rfl rfl rfl (by decide +kernel) ⟨Nat.le_of_ble_eq_true rfl, Nat.le_of_ble_eq_true rfl⟩) hK hP k0 rfl rfl hl.1 rfl (Nat.le_of_ble_eq_true rfl) dX4_delete_13 ⟨Nat.le_of_ble_eq_true rfl, Nat.le_of_ble_eq_true rfl⟩ (fun w9 H locs q10 hP => ?_)
  obtain ⟨⟨g1, f12, hmk⟩, fr13⟩ := q10
  have k0 : w9 0 = some (.inr (4, [.ref (B + 1), .int (nI nT), .ref (B + 2), .int (nI nL), .ref (B + 3), .int (nI nS), .ref (B + 4), .int (nI nC), .ref (B + 5), .int (nI nW), .ref (B + 6), .ref (B + 9), .ref (B + 12), .int (nI nM), .ref (B + 13), .int rs])) := (fr13 _ (by decide)).trans k0
  have k1 : w9 1 = some (kl_aI G 4 ((fun t => nI (cn t)))) := (fr13 _ (by decide)).trans k1
  have k2 : w9 2 = some (kl_aR G 3 6 lf) := (fr13 _ (by decide)).trans k2
  have k3 : w9 3 = some (kl_aR G 4 4 sf) := (fr13 _ (by decide)).trans k3
  have k4 : w9 4 = some (kl_aR G 5 4 cf) := (fr13 _ (by decide)).trans k4
  have k6 : w9 6 = some (.inr (2, [.ref (B + 7), .ref (B + 8)])) := (fr13 _ (by decide)).trans k6
  have k7 : w9 7 = some (kl_aI G 24 T) := (fr13 _ (by decide)).trans k7
  have k8 : w9 8 = some (kl_aI G 96 C) := (fr13 _ (by decide)).trans k8
  have k9 : w9 9 = some (.inr (2, [.ref (B + 10), .ref (B + 11)])) := (fr13 _ (by decide)).trans k9
  have k10 : w9 10 = some (kl_aI G 24 dT) := (fr13 _ (by decide)).trans k10
  have k11 : w9 11 = some (kl_aI G 96 dC) := (fr13 _ (by decide)).trans k11
  have hru := kl_RU.mv hru (fun j hj => fr13 j (by omega))
  have frm : ∀ j : Nat, j < 48 → j ≠ 0 → j ≠ 7 → j ≠ 8 → j ≠ 10 → j ≠ 11 → j ≠ 13 → w9 j = w j := fun j hj k0 k1 k2 k3 k4 k5 => (fr13 j k5).trans (frm j hj k0 k1 k2 k3 k4 k5)
  refine lv_iconst (v := nI 1) hx hb dX4_delete_16 (by decide) ?_
  refine lv_istore (lv' := [(4, .int (nI 1)), (0, .ref (B + 0)), (1, .int t), (2, .int (nI q)), (3, .int x)]) hx hb dX4_delete_17 hl (by decide) rfl (fun ls hl => ?_)
  refine lv_iconst (v := nI 0) hx hb dX4_delete_19 (by decide) ?_
  refine lv_istore (lv' := [(5, .int (nI 0)), (4, .int (nI 1)), (0, .ref (B + 0)), (1, .int t), (2, .int (nI q)), (3, .int x)]) hx hb dX4_delete_20 hl (by decide) rfl (fun ls hl => ?_)
  have lp22 : ∀ (n22 : Nat) (rd : Nat) (mm : Nat) (g : Nat → Int32), 24 - rd < n22 → (rd ≤ 24) → (mt_from T C nL lch lco lpa lwy g1 g) → (mt_rd T C nL lch lco lpa lwy rd mm g) → ∀ (w1 : kl_M) (H : Heap) (locs : List Loc), w1 0 = some (.inr (4, [.ref (B + 1), .int (nI nT), .ref (B + 2), .int (nI nL), .ref (B + 3), .int (nI nS), .ref (B + 4), .int (nI nC), .ref (B + 5), .int (nI nW), .ref (B + 6), .ref (B + 9), .ref (B + 12), .int (nI nM), .ref (B + 13), .int rs])) → w1 1 = some (kl_aI G 4 ((fun t => nI (cn t)))) → w1 2 = some (kl_aR G 3 6 lf) → w1 3 = some (kl_aR G 4 4 sf) → w1 4 = some (kl_aR G 5 4 cf) → w1 6 = some (.inr (2, [.ref (B + 7), .ref (B + 8)])) → w1 7 = some (kl_aI G 24 T) → w1 8 = some (kl_aI G 96 C) → w1 9 = some (.inr (2, [.ref (B + 10), .ref (B + 11)])) → w1 10 = some (kl_aI G 24 dT) → w1 11 = some (kl_aI G 96 dC) → w1 13 = some (kl_aZ G 24 g) → (kl_RU G B w1 nL lf la lch lco lpa lwy nS sf sa stb sco nC cf ca cwa cpa ctb cln cwd ccol) → (∀ j : Nat, j < 48 → j ≠ 0 → j ≠ 7 → j ≠ 8 → j ≠ 10 → j ≠ 11 → j ≠ 13 → w1 j = w j) → kl_S G B w1 s.heap H locs → ∀ ls : Array Slot, lv_has ls 6 [(0, .ref (B + 0)), (1, .int t), (2, .int (nI q)), (3, .int x), (4, .int (nI mm)), (5, .int (nI rd))] → W pg l e rm_X4_delete s m ([.ref (B + 0), .int t, .int c, .int x] : List Value).toArray below meth cd H locs (0 + 0 + 1 + 0) (0 + 0 + 6 + 0) (vx_MQ below (kl_Qi G B (fun r w1 => mt_col t c nT cn ∧ ∃ q g1 g2 d2 kp, q < 4 ∧ c = nI q ∧ (∀ p, p < 24 → mt_mark T C t q x p (g1 p)) ∧ mt_from T C nL lch lco lpa lwy g1 g2 ∧ (∀ l p, p < 24 → l < nL → mt_chk T C g2 lch lco lpa lwy l p) ∧ mt_wr 24 (fun l _ => l < nL) (fun l p => lwy l = nI 2 ∧ g2 p = 0 ∧ mt_lost T C g2 (lch l) (lco l) (lpa l) p) lco (fun _ => nI 0) C d2 ∧ mt_kp 24 (fun l _ => l < nL) (fun l p => lwy l = 0 ∧ g2 p = 0 ∧ mt_lost T C g2 (lch l) (lco l) (lpa l) p) kp ∧ r = nI (mt_gc 24 g2) ∧ mt_st kp (mt_why (mt_rm g2 T) d2 nT nS stb sco nL lch lco lpa nC ctb cwd cln) (nI 0) ∧ w1 0 = some (.inr (4, [.ref (B + 1), .int (nI nT), .ref (B + 2), .int (nI nL), .ref (B + 3), .int (nI nS), .ref (B + 4), .int (nI nC), .ref (B + 5), .int (nI nW), .ref (B + 6), .ref (B + 9), .ref (B + 12), .int (nI nM), .ref (B + 13), .int rs])) ∧ kl_RU G B w1 nL lf la lch lco lpa lwy nS sf sa stb sco nC cf ca cwa cpa ctb cln cwd ccol ∧ w1 7 = some (kl_aI G 24 (mt_rm g2 T)) ∧ w1 8 = some (kl_aI G 96 d2) ∧ kl_dr G w1 ∧ (∀ j : Nat, j < 48 → j ≠ 0 → j ≠ 7 → j ≠ 8 → j ≠ 10 → j ≠ 11 → j ≠ 13 → w1 j = w j) ∧ ∃ gg, w1 13 = some (kl_aZ G 24 gg))) (kl_X G B (fun E w1 => (E = "java/lang/IllegalArgumentException" ∧ w1 = w ∧ ¬ mt_col t c nT cn) ∨ (E = "java/lang/IllegalStateException" ∧ mt_col t c nT cn ∧ ∃ q g1 g2 d2 kp, q < 4 ∧ c = nI q ∧ (∀ p, p < 24 → mt_mark T C t q x p (g1 p)) ∧ mt_from T C nL lch lco lpa lwy g1 g2 ∧ (∀ l p, p < 24 → l < nL → mt_chk T C g2 lch lco lpa lwy l p) ∧ mt_wr 24 (fun l _ => l < nL) (fun l p => lwy l = nI 2 ∧ g2 p = 0 ∧ mt_lost T C g2 (lch l) (lco l) (lpa l) p) lco (fun _ => nI 0) C d2 ∧ mt_kp 24 (fun l _ => l < nL) (fun l p => lwy l = 0 ∧ g2 p = 0 ∧ mt_lost T C g2 (lch l) (lco l) (lpa l) p) kp ∧ (∃ gg, w1 13 = some (kl_aZ G 24 gg)) ∧ ∃ r, r ≠ 0 ∧ mt_st kp (mt_why (mt_rm g2 T) d2 nT nS stb sco nL lch lco lpa nC ctb cwd cln) r ∧ w1 0 = some (.inr (4, [.ref (B + 1), .int (nI nT), .ref (B + 2), .int (nI nL), .ref (B + 3), .int (nI nS), .ref (B + 4), .int (nI nC), .ref (B + 5), .int (nI nW), .ref (B + 6), .ref (B + 9), .ref (B + 12), .int (nI nM), .ref (B + 13), .int r])) ∧ kl_RU G B w1 nL lf la lch lco lpa lwy nS sf sa stb sco nC cf ca cwa cpa ctb cln cwd ccol ∧ w1 7 = some (kl_aI G 24 T) ∧ w1 8 = some (kl_aI G 96 C) ∧ kl_dr G w1 ∧ ∀ j : Nat, j < 48 → j ≠ 0 → j ≠ 7 → j ≠ 8 → j ≠ 10 → j ≠ 11 → j ≠ 13 → w1 j = w j))) ([.ref (B + 0), .int t, .int c, .int x] : List Value).toArray s 2 12 (kl_fr B)) (F0 m 22 ls []) := by
    intro n22
    induction n22 with
    | zero => intro rd mm g hm; exact absurd hm (Nat.not_lt_zero _)
    | succ n22 ih22 =>
      intro rd mm g hm hrd9 hfr hrd w1 H locs k0 k1 k2 k3 k4 k6 k7 k8 k9 k10 k11 f12 hru frm hP ls hl
      have hmm2 := hrd.bool
      refine lv_iload hx hb dX4_delete_22 (lv_at hl 4 rfl) ?_
      refine kl_z_eq (tgt := 46) hx hb (by omega) dX4_delete_24 (by decide) (fun c24 => ?_) (fun c24 => ?_)
      · have hfin := mt_rd.fin hrd (Or.inl c24)
        refine lv_aload_n hx hb dX4_delete_46 rfl (lv_at hl 0 rfl) ?_
        refine kl_get (C := RX4) (T := TX4) (N := 16) (ci := 4) hx hb hts hinX4 hown hK hP k0 rfl 11 (by decide) (hts (.fieldLink RX4 57 "KinLedger" "draft" "LKinLedger$Rows;") (by decide +kernel)) (fun _ h9 => h9) rfl dX4_delete_47 ?_
        refine lv_aload_n hx hb dX4_delete_50 rfl (lv_at hl 0 rfl) ?_
        refine kl_get (C := RX4) (T := TX4) (N := 16) (ci := 4) hx hb hts hinX4 hown hK hP k0 rfl 10 (by decide) (hts (.fieldLink RX4 53 "KinLedger" "rows" "LKinLedger$Rows;") (by decide +kernel)) (fun _ h9 => h9) rfl dX4_delete_51 ?_
        refine kl_cVv (C := RX2) (i := 9) (As := [.ref (B + 6)]) (rest := []) ⟨hx, hb, hml, hown, hts⟩ (c_X2_become l G B _ 9 10 11 6 7 8 k9 k10 k11 k6 k7 k8 (by omega)) (cwV 1 hts gX4_delete_X2_become rfl rfl rfl (by decide +kernel) ⟨Nat.le_of_ble_eq_true rfl, Nat.le_of_ble_eq_true rfl⟩) hK hP k9 rfl rfl hl.1 rfl (Nat.le_of_ble_eq_true rfl) dX4_delete_54 ⟨Nat.le_of_ble_eq_true rfl, Nat.le_of_ble_eq_true rfl⟩ (fun w14 H locs q15 hP => ?_)
        obtain ⟨f17, f18, fr19⟩ := q15
        have k0 : w14 0 = some (.inr (4, [.ref (B + 1), .int (nI nT), .ref (B + 2), .int (nI nL), .ref (B + 3), .int (nI nS), .ref (B + 4), .int (nI nC), .ref (B + 5), .int (nI nW), .ref (B + 6), .ref (B + 9), .ref (B + 12), .int (nI nM), .ref (B + 13), .int rs])) := (fr19 _ (by decide) (by decide)).trans k0
        have k1 : w14 1 = some (kl_aI G 4 ((fun t => nI (cn t)))) := (fr19 _ (by decide) (by decide)).trans k1
        have k2 : w14 2 = some (kl_aR G 3 6 lf) := (fr19 _ (by decide) (by decide)).trans k2
        have k3 : w14 3 = some (kl_aR G 4 4 sf) := (fr19 _ (by decide) (by decide)).trans k3
        have k4 : w14 4 = some (kl_aR G 5 4 cf) := (fr19 _ (by decide) (by decide)).trans k4
        have k6 : w14 6 = some (.inr (2, [.ref (B + 7), .ref (B + 8)])) := (fr19 _ (by decide) (by decide)).trans k6
        have k7 : w14 7 = some (kl_aI G 24 T) := (fr19 _ (by decide) (by decide)).trans k7
        have k8 : w14 8 = some (kl_aI G 96 C) := (fr19 _ (by decide) (by decide)).trans k8
        have k9 : w14 9 = some (.inr (2, [.ref (B + 10), .ref (B + 11)])) := (fr19 _ (by decide) (by decide)).trans k9
        have f12 : w14 13 = some (kl_aZ G 24 g) := (fr19 _ (by decide) (by decide)).trans f12
        have hru := kl_RU.mv hru (fun j hj => fr19 j (by omega) (by omega))
        have frm : ∀ j : Nat, j < 48 → j ≠ 0 → j ≠ 7 → j ≠ 8 → j ≠ 10 → j ≠ 11 → j ≠ 13 → w14 j = w j := fun j hj k0 k1 k2 k3 k4 k5 => (fr19 j k3 k4).trans (frm j hj k0 k1 k2 k3 k4 k5)
        refine lv_aload_n hx hb dX4_delete_57 rfl (lv_at hl 0 rfl) ?_
        refine kl_cVi (C := RX4) (i := 0) (As := []) (rest := []) ⟨hx, hb, hml, hown, hts⟩ (c_X4_removeGoing l G B _ k0 f12 k9 f17 f18) (cwV 0 hts gX4_delete_X4_removeGoing rfl rfl rfl (by decide +kernel) ⟨Nat.le_of_ble_eq_true rfl, Nat.le_of_ble_eq_true rfl⟩) hK hP k0 rfl rfl hl.1 rfl (Nat.le_of_ble_eq_true rfl) dX4_delete_58 ⟨Nat.le_of_ble_eq_true rfl, Nat.le_of_ble_eq_true rfl⟩ (fun r22 w20 H locs q21 hP => ?_)
        obtain ⟨rfl, f23, fr24⟩ := q21
        have k0 : w20 0 = some (.inr (4, [.ref (B + 1), .int (nI nT), .ref (B + 2), .int (nI nL), .ref (B + 3), .int (nI nS), .ref (B + 4), .int (nI nC), .ref (B + 5), .int (nI nW), .ref (B + 6), .ref (B + 9), .ref (B + 12), .int (nI nM), .ref (B + 13), .int rs])) := (fr24 _ (by decide)).trans k0
        have k1 : w20 1 = some (kl_aI G 4 ((fun t => nI (cn t)))) := (fr24 _ (by decide)).trans k1
        have k2 : w20 2 = some (kl_aR G 3 6 lf) := (fr24 _ (by decide)).trans k2
        have k3 : w20 3 = some (kl_aR G 4 4 sf) := (fr24 _ (by decide)).trans k3
        have k4 : w20 4 = some (kl_aR G 5 4 cf) := (fr24 _ (by decide)).trans k4
        have k6 : w20 6 = some (.inr (2, [.ref (B + 7), .ref (B + 8)])) := (fr24 _ (by decide)).trans k6
        have k7 : w20 7 = some (kl_aI G 24 T) := (fr24 _ (by decide)).trans k7
        have k8 : w20 8 = some (kl_aI G 96 C) := (fr24 _ (by decide)).trans k8
        have k9 : w20 9 = some (.inr (2, [.ref (B + 10), .ref (B + 11)])) := (fr24 _ (by decide)).trans k9
        have f18 : w20 11 = some (kl_aI G 96 C) := (fr24 _ (by decide)).trans f18
        have f12 : w20 13 = some (kl_aZ G 24 g) := (fr24 _ (by decide)).trans f12
        have hru := kl_RU.mv hru (fun j hj => fr24 j (by omega))
        have frm : ∀ j : Nat, j < 48 → j ≠ 0 → j ≠ 7 → j ≠ 8 → j ≠ 10 → j ≠ 11 → j ≠ 13 → w20 j = w j := fun j hj k0 k1 k2 k3 k4 k5 => (fr24 j k3).trans (frm j hj k0 k1 k2 k3 k4 k5)
        refine lv_istore (lv' := [(5, .int (nI (mt_gc 24 g))), (0, .ref (B + 0)), (1, .int t), (2, .int (nI q)), (3, .int x), (4, .int (nI mm))]) hx hb dX4_delete_61 hl (by decide) rfl (fun ls hl => ?_)
        refine lv_aload_n hx hb dX4_delete_63 rfl (lv_at hl 1 rfl) ?_
        refine lv_aload_n hx hb dX4_delete_64 rfl (lv_at hl 1 rfl) ?_
        refine kl_cVi (C := RX4) (i := 0) (As := []) (rest := [.ref (B + 0)]) ⟨hx, hb, hml, hown, hts⟩ (c_X4_loosenFromGoing l G B _ k0 k2 f12 k6 k7 k8 k9 f23 f18 hru (by omega) hu hpar) (cwV 0 hts gX4_delete_X4_loosenFromGoing rfl rfl rfl (by decide +kernel) ⟨Nat.le_of_ble_eq_true rfl, Nat.le_of_ble_eq_true rfl⟩) hK hP k0 rfl rfl hl.1 rfl (Nat.le_of_ble_eq_true rfl) dX4_delete_65 ⟨Nat.le_of_ble_eq_true rfl, Nat.le_of_ble_eq_true rfl⟩ (fun r27 w25 H locs q26 hP => ?_)
        obtain ⟨⟨d2, f28, hwr⟩, hkp, fr29⟩ := q26
        have k0 : w25 0 = some (.inr (4, [.ref (B + 1), .int (nI nT), .ref (B + 2), .int (nI nL), .ref (B + 3), .int (nI nS), .ref (B + 4), .int (nI nC), .ref (B + 5), .int (nI nW), .ref (B + 6), .ref (B + 9), .ref (B + 12), .int (nI nM), .ref (B + 13), .int rs])) := (fr29 _ (by decide)).trans k0
        have k1 : w25 1 = some (kl_aI G 4 ((fun t => nI (cn t)))) := (fr29 _ (by decide)).trans k1
        have k2 : w25 2 = some (kl_aR G 3 6 lf) := (fr29 _ (by decide)).trans k2
        have k3 : w25 3 = some (kl_aR G 4 4 sf) := (fr29 _ (by decide)).trans k3
        have k4 : w25 4 = some (kl_aR G 5 4 cf) := (fr29 _ (by decide)).trans k4
        have k6 : w25 6 = some (.inr (2, [.ref (B + 7), .ref (B + 8)])) := (fr29 _ (by decide)).trans k6
        have k7 : w25 7 = some (kl_aI G 24 T) := (fr29 _ (by decide)).trans k7
        have k8 : w25 8 = some (kl_aI G 96 C) := (fr29 _ (by decide)).trans k8
        have k9 : w25 9 = some (.inr (2, [.ref (B + 10), .ref (B + 11)])) := (fr29 _ (by decide)).trans k9
        have f23 : w25 10 = some (kl_aI G 24 ((mt_rm g T))) := (fr29 _ (by decide)).trans f23
        have f12 : w25 13 = some (kl_aZ G 24 g) := (fr29 _ (by decide)).trans f12
        have hru := kl_RU.mv hru (fun j hj => fr29 j (by omega))
        have frm : ∀ j : Nat, j < 48 → j ≠ 0 → j ≠ 7 → j ≠ 8 → j ≠ 10 → j ≠ 11 → j ≠ 13 → w25 j = w j := fun j hj k0 k1 k2 k3 k4 k5 => (fr29 j k4).trans (frm j hj k0 k1 k2 k3 k4 k5)
        have hkk9 := mt_kp_r hkp (by omega)
        refine klx_cVv (C := RX4) (i := 0) (As := [.int r27]) (rest := []) ⟨hx, hb, hml, hown, hts⟩ (c_X4_settle l hst G B _ r27 k0 k2 k3 k4 k6 k7 k8 k9 f23 f28 ⟨by omega, by omega, by omega, by omega, by omega, by omega⟩ hru hkk9) (cwV 1 hts gX4_delete_X4_settle rfl rfl rfl (by decide +kernel) ⟨Nat.le_of_ble_eq_true rfl, Nat.le_of_ble_eq_true rfl⟩) hK hZ hP k0 rfl rfl hl.1 rfl (Nat.le_of_ble_eq_true rfl) dX4_delete_68 ⟨Nat.le_of_ble_eq_true rfl, Nat.le_of_ble_eq_true rfl⟩ (fun E ce q9 w9 H locs hpx hP h9 hv9 hc9 => kl_out hout hlocks hP (by obtain ⟨hE, r9, hr0, hst9, h09, hru9, hfr9⟩ := hpx; exact Or.inr ⟨hE, hok, q, g1, g, d2, _, by omega, hcq, hmk, hfr, hfin, hwr, hkp, ⟨_, (hfr9 13 (by decide) (by decide)).trans f12⟩, r9, hr0, hst9, h09, hru9, (hfr9 7 (by decide) (by decide)).trans k7, (hfr9 8 (by decide) (by decide)).trans k8, ⟨_, _, (hfr9 10 (by decide) (by decide)).trans f23, (hfr9 11 (by decide) (by decide)).trans f28⟩, fun j hj k0 k1 k2 k3 k4 k5 => (hfr9 j hj k0).trans (frm j hj k0 k1 k2 k3 k4 k5)⟩) h9 hv9 hc9 (Nat.le_of_ble_eq_true rfl) (Nat.le_of_ble_eq_true rfl)) (fun w30 H locs q31 hP => ?_)
        obtain ⟨hst9, hru, f33, f34, fr35⟩ := q31
        have k0 : w30 0 = some (.inr (4, [.ref (B + 1), .int (nI nT), .ref (B + 2), .int (nI nL), .ref (B + 3), .int (nI nS), .ref (B + 4), .int (nI nC), .ref (B + 5), .int (nI nW), .ref (B + 6), .ref (B + 9), .ref (B + 12), .int (nI nM), .ref (B + 13), .int rs])) := (fr35 _ (by decide) (by decide) (by decide)).trans k0
        have k1 : w30 1 = some (kl_aI G 4 ((fun t => nI (cn t)))) := (fr35 _ (by decide) (by decide) (by decide)).trans k1
        have k2 : w30 2 = some (kl_aR G 3 6 lf) := (fr35 _ (by decide) (by decide) (by decide)).trans k2
        have k3 : w30 3 = some (kl_aR G 4 4 sf) := (fr35 _ (by decide) (by decide) (by decide)).trans k3
        have k4 : w30 4 = some (kl_aR G 5 4 cf) := (fr35 _ (by decide) (by decide) (by decide)).trans k4
        have k6 : w30 6 = some (.inr (2, [.ref (B + 7), .ref (B + 8)])) := (fr35 _ (by decide) (by decide) (by decide)).trans k6
        have k9 : w30 9 = some (.inr (2, [.ref (B + 10), .ref (B + 11)])) := (fr35 _ (by decide) (by decide) (by decide)).trans k9
        have f23 : w30 10 = some (kl_aI G 24 ((mt_rm g T))) := (fr35 _ (by decide) (by decide) (by decide)).trans f23
        have f28 : w30 11 = some (kl_aI G 96 d2) := (fr35 _ (by decide) (by decide) (by decide)).trans f28
        have f12 : w30 13 = some (kl_aZ G 24 g) := (fr35 _ (by decide) (by decide) (by decide)).trans f12
        have frm : ∀ j : Nat, j < 48 → j ≠ 0 → j ≠ 7 → j ≠ 8 → j ≠ 10 → j ≠ 11 → j ≠ 13 → w30 j = w j := fun j hj k0 k1 k2 k3 k4 k5 => (fr35 j hj k1 k2).trans (frm j hj k0 k1 k2 k3 k4 k5)
        refine lv_iload hx hb dX4_delete_71 (lv_at hl 0 rfl) ?_
        refine W.widen (k := 2) (n := 12) (by omega) (by omega) ?_
        refine vx_ret ?_
        exact kl_iret hx hb hr hlocks hP ⟨hok, q, g1, g, d2, _, by omega, hcq, hmk, hfr, hfin, hwr, hkp, rfl, hst9, k0, hru, f33, f34, ⟨_, _, f23, f28⟩, frm, ⟨_, f12⟩⟩ dX4_delete_73
      · refine lv_iload hx hb dX4_delete_27 (lv_at hl 5 rfl) ?_
        refine lv_bipush (v := nI 24) hx hb dX4_delete_29 (by decide) ?_
        refine kl_ge (tgt := 46) hx hb (by omega) (by omega) dX4_delete_31 (by decide) (fun c31 => ?_) (fun c31 => ?_)
        · have hfin := mt_rd.fin hrd (Or.inr c31)
          refine lv_aload_n hx hb dX4_delete_46 rfl (lv_at hl 0 rfl) ?_
          refine kl_get (C := RX4) (T := TX4) (N := 16) (ci := 4) hx hb hts hinX4 hown hK hP k0 rfl 11 (by decide) (hts (.fieldLink RX4 57 "KinLedger" "draft" "LKinLedger$Rows;") (by decide +kernel)) (fun _ h9 => h9) rfl dX4_delete_47 ?_
          refine lv_aload_n hx hb dX4_delete_50 rfl (lv_at hl 0 rfl) ?_
          refine kl_get (C := RX4) (T := TX4) (N := 16) (ci := 4) hx hb hts hinX4 hown hK hP k0 rfl 10 (by decide) (hts (.fieldLink RX4 53 "KinLedger" "rows" "LKinLedger$Rows;") (by decide +kernel)) (fun _ h9 => h9) rfl dX4_delete_51 ?_
          refine kl_cVv (C := RX2) (i := 9) (As := [.ref (B + 6)]) (rest := []) ⟨hx, hb, hml, hown, hts⟩ (c_X2_become l G B _ 9 10 11 6 7 8 k9 k10 k11 k6 k7 k8 (by omega)) (cwV 1 hts gX4_delete_X2_become rfl rfl rfl (by decide +kernel) ⟨Nat.le_of_ble_eq_true rfl, Nat.le_of_ble_eq_true rfl⟩) hK hP k9 rfl rfl hl.1 rfl (Nat.le_of_ble_eq_true rfl) dX4_delete_54 ⟨Nat.le_of_ble_eq_true rfl, Nat.le_of_ble_eq_true rfl⟩ (fun w36 H locs q37 hP => ?_)
          obtain ⟨f39, f40, fr41⟩ := q37
          have k0 : w36 0 = some (.inr (4, [.ref (B + 1), .int (nI nT), .ref (B + 2), .int (nI nL), .ref (B + 3), .int (nI nS), .ref (B + 4), .int (nI nC), .ref (B + 5), .int (nI nW), .ref (B + 6), .ref (B + 9), .ref (B + 12), .int (nI nM), .ref (B + 13), .int rs])) := (fr41 _ (by decide) (by decide)).trans k0
          have k1 : w36 1 = some (kl_aI G 4 ((fun t => nI (cn t)))) := (fr41 _ (by decide) (by decide)).trans k1
          have k2 : w36 2 = some (kl_aR G 3 6 lf) := (fr41 _ (by decide) (by decide)).trans k2
          have k3 : w36 3 = some (kl_aR G 4 4 sf) := (fr41 _ (by decide) (by decide)).trans k3
          have k4 : w36 4 = some (kl_aR G 5 4 cf) := (fr41 _ (by decide) (by decide)).trans k4
          have k6 : w36 6 = some (.inr (2, [.ref (B + 7), .ref (B + 8)])) := (fr41 _ (by decide) (by decide)).trans k6
          have k7 : w36 7 = some (kl_aI G 24 T) := (fr41 _ (by decide) (by decide)).trans k7
          have k8 : w36 8 = some (kl_aI G 96 C) := (fr41 _ (by decide) (by decide)).trans k8
          have k9 : w36 9 = some (.inr (2, [.ref (B + 10), .ref (B + 11)])) := (fr41 _ (by decide) (by decide)).trans k9
          have f12 : w36 13 = some (kl_aZ G 24 g) := (fr41 _ (by decide) (by decide)).trans f12
          have hru := kl_RU.mv hru (fun j hj => fr41 j (by omega) (by omega))
          have frm : ∀ j : Nat, j < 48 → j ≠ 0 → j ≠ 7 → j ≠ 8 → j ≠ 10 → j ≠ 11 → j ≠ 13 → w36 j = w j := fun j hj k0 k1 k2 k3 k4 k5 => (fr41 j k3 k4).trans (frm j hj k0 k1 k2 k3 k4 k5)
          refine lv_aload_n hx hb dX4_delete_57 rfl (lv_at hl 0 rfl) ?_
          refine kl_cVi (C := RX4) (i := 0) (As := []) (rest := []) ⟨hx, hb, hml, hown, hts⟩ (c_X4_removeGoing l G B _ k0 f12 k9 f39 f40) (cwV 0 hts gX4_delete_X4_removeGoing rfl rfl rfl (by decide +kernel) ⟨Nat.le_of_ble_eq_true rfl, Nat.le_of_ble_eq_true rfl⟩) hK hP k0 rfl rfl hl.1 rfl (Nat.le_of_ble_eq_true rfl) dX4_delete_58 ⟨Nat.le_of_ble_eq_true rfl, Nat.le_of_ble_eq_true rfl⟩ (fun r44 w42 H locs q43 hP => ?_)
          obtain ⟨rfl, f45, fr46⟩ := q43
          have k0 : w42 0 = some (.inr (4, [.ref (B + 1), .int (nI nT), .ref (B + 2), .int (nI nL), .ref (B + 3), .int (nI nS), .ref (B + 4), .int (nI nC), .ref (B + 5), .int (nI nW), .ref (B + 6), .ref (B + 9), .ref (B + 12), .int (nI nM), .ref (B + 13), .int rs])) := (fr46 _ (by decide)).trans k0
          have k1 : w42 1 = some (kl_aI G 4 ((fun t => nI (cn t)))) := (fr46 _ (by decide)).trans k1
          have k2 : w42 2 = some (kl_aR G 3 6 lf) := (fr46 _ (by decide)).trans k2
          have k3 : w42 3 = some (kl_aR G 4 4 sf) := (fr46 _ (by decide)).trans k3
          have k4 : w42 4 = some (kl_aR G 5 4 cf) := (fr46 _ (by decide)).trans k4
          have k6 : w42 6 = some (.inr (2, [.ref (B + 7), .ref (B + 8)])) := (fr46 _ (by decide)).trans k6
          have k7 : w42 7 = some (kl_aI G 24 T) := (fr46 _ (by decide)).trans k7
          have k8 : w42 8 = some (kl_aI G 96 C) := (fr46 _ (by decide)).trans k8
          have k9 : w42 9 = some (.inr (2, [.ref (B + 10), .ref (B + 11)])) := (fr46 _ (by decide)).trans k9
          have f40 : w42 11 = some (kl_aI G 96 C) := (fr46 _ (by decide)).trans f40
          have f12 : w42 13 = some (kl_aZ G 24 g) := (fr46 _ (by decide)).trans f12
          have hru := kl_RU.mv hru (fun j hj => fr46 j (by omega))
          have frm : ∀ j : Nat, j < 48 → j ≠ 0 → j ≠ 7 → j ≠ 8 → j ≠ 10 → j ≠ 11 → j ≠ 13 → w42 j = w j := fun j hj k0 k1 k2 k3 k4 k5 => (fr46 j k3).trans (frm j hj k0 k1 k2 k3 k4 k5)
          refine lv_istore (lv' := [(5, .int (nI (mt_gc 24 g))), (0, .ref (B + 0)), (1, .int t), (2, .int (nI q)), (3, .int x), (4, .int (nI mm))]) hx hb dX4_delete_61 hl (by decide) rfl (fun ls hl => ?_)
          refine lv_aload_n hx hb dX4_delete_63 rfl (lv_at hl 1 rfl) ?_
          refine lv_aload_n hx hb dX4_delete_64 rfl (lv_at hl 1 rfl) ?_
          refine kl_cVi (C := RX4) (i := 0) (As := []) (rest := [.ref (B + 0)]) ⟨hx, hb, hml, hown, hts⟩ (c_X4_loosenFromGoing l G B _ k0 k2 f12 k6 k7 k8 k9 f45 f40 hru (by omega) hu hpar) (cwV 0 hts gX4_delete_X4_loosenFromGoing rfl rfl rfl (by decide +kernel) ⟨Nat.le_of_ble_eq_true rfl, Nat.le_of_ble_eq_true rfl⟩) hK hP k0 rfl rfl hl.1 rfl (Nat.le_of_ble_eq_true rfl) dX4_delete_65 ⟨Nat.le_of_ble_eq_true rfl, Nat.le_of_ble_eq_true rfl⟩ (fun r49 w47 H locs q48 hP => ?_)
          obtain ⟨⟨d2, f50, hwr⟩, hkp, fr51⟩ := q48
          have k0 : w47 0 = some (.inr (4, [.ref (B + 1), .int (nI nT), .ref (B + 2), .int (nI nL), .ref (B + 3), .int (nI nS), .ref (B + 4), .int (nI nC), .ref (B + 5), .int (nI nW), .ref (B + 6), .ref (B + 9), .ref (B + 12), .int (nI nM), .ref (B + 13), .int rs])) := (fr51 _ (by decide)).trans k0
          have k1 : w47 1 = some (kl_aI G 4 ((fun t => nI (cn t)))) := (fr51 _ (by decide)).trans k1
          have k2 : w47 2 = some (kl_aR G 3 6 lf) := (fr51 _ (by decide)).trans k2
          have k3 : w47 3 = some (kl_aR G 4 4 sf) := (fr51 _ (by decide)).trans k3
          have k4 : w47 4 = some (kl_aR G 5 4 cf) := (fr51 _ (by decide)).trans k4
          have k6 : w47 6 = some (.inr (2, [.ref (B + 7), .ref (B + 8)])) := (fr51 _ (by decide)).trans k6
          have k7 : w47 7 = some (kl_aI G 24 T) := (fr51 _ (by decide)).trans k7
          have k8 : w47 8 = some (kl_aI G 96 C) := (fr51 _ (by decide)).trans k8
          have k9 : w47 9 = some (.inr (2, [.ref (B + 10), .ref (B + 11)])) := (fr51 _ (by decide)).trans k9
          have f45 : w47 10 = some (kl_aI G 24 ((mt_rm g T))) := (fr51 _ (by decide)).trans f45
          have f12 : w47 13 = some (kl_aZ G 24 g) := (fr51 _ (by decide)).trans f12
          have hru := kl_RU.mv hru (fun j hj => fr51 j (by omega))
          have frm : ∀ j : Nat, j < 48 → j ≠ 0 → j ≠ 7 → j ≠ 8 → j ≠ 10 → j ≠ 11 → j ≠ 13 → w47 j = w j := fun j hj k0 k1 k2 k3 k4 k5 => (fr51 j k4).trans (frm j hj k0 k1 k2 k3 k4 k5)
          have hkk9 := mt_kp_r hkp (by omega)
          refine klx_cVv (C := RX4) (i := 0) (As := [.int r49]) (rest := []) ⟨hx, hb, hml, hown, hts⟩ (c_X4_settle l hst G B _ r49 k0 k2 k3 k4 k6 k7 k8 k9 f45 f50 ⟨by omega, by omega, by omega, by omega, by omega, by omega⟩ hru hkk9) (cwV 1 hts gX4_delete_X4_settle rfl rfl rfl (by decide +kernel) ⟨Nat.le_of_ble_eq_true rfl, Nat.le_of_ble_eq_true rfl⟩) hK hZ hP k0 rfl rfl hl.1 rfl (Nat.le_of_ble_eq_true rfl) dX4_delete_68 ⟨Nat.le_of_ble_eq_true rfl, Nat.le_of_ble_eq_true rfl⟩ (fun E ce q9 w9 H locs hpx hP h9 hv9 hc9 => kl_out hout hlocks hP (by obtain ⟨hE, r9, hr0, hst9, h09, hru9, hfr9⟩ := hpx; exact Or.inr ⟨hE, hok, q, g1, g, d2, _, by omega, hcq, hmk, hfr, hfin, hwr, hkp, ⟨_, (hfr9 13 (by decide) (by decide)).trans f12⟩, r9, hr0, hst9, h09, hru9, (hfr9 7 (by decide) (by decide)).trans k7, (hfr9 8 (by decide) (by decide)).trans k8, ⟨_, _, (hfr9 10 (by decide) (by decide)).trans f45, (hfr9 11 (by decide) (by decide)).trans f50⟩, fun j hj k0 k1 k2 k3 k4 k5 => (hfr9 j hj k0).trans (frm j hj k0 k1 k2 k3 k4 k5)⟩) h9 hv9 hc9 (Nat.le_of_ble_eq_true rfl) (Nat.le_of_ble_eq_true rfl)) (fun w52 H locs q53 hP => ?_)
          obtain ⟨hst9, hru, f55, f56, fr57⟩ := q53
          have k0 : w52 0 = some (.inr (4, [.ref (B + 1), .int (nI nT), .ref (B + 2), .int (nI nL), .ref (B + 3), .int (nI nS), .ref (B + 4), .int (nI nC), .ref (B + 5), .int (nI nW), .ref (B + 6), .ref (B + 9), .ref (B + 12), .int (nI nM), .ref (B + 13), .int rs])) := (fr57 _ (by decide) (by decide) (by decide)).trans k0
          have k1 : w52 1 = some (kl_aI G 4 ((fun t => nI (cn t)))) := (fr57 _ (by decide) (by decide) (by decide)).trans k1
          have k2 : w52 2 = some (kl_aR G 3 6 lf) := (fr57 _ (by decide) (by decide) (by decide)).trans k2
          have k3 : w52 3 = some (kl_aR G 4 4 sf) := (fr57 _ (by decide) (by decide) (by decide)).trans k3
          have k4 : w52 4 = some (kl_aR G 5 4 cf) := (fr57 _ (by decide) (by decide) (by decide)).trans k4
          have k6 : w52 6 = some (.inr (2, [.ref (B + 7), .ref (B + 8)])) := (fr57 _ (by decide) (by decide) (by decide)).trans k6
          have k9 : w52 9 = some (.inr (2, [.ref (B + 10), .ref (B + 11)])) := (fr57 _ (by decide) (by decide) (by decide)).trans k9
          have f45 : w52 10 = some (kl_aI G 24 ((mt_rm g T))) := (fr57 _ (by decide) (by decide) (by decide)).trans f45
          have f50 : w52 11 = some (kl_aI G 96 d2) := (fr57 _ (by decide) (by decide) (by decide)).trans f50
          have f12 : w52 13 = some (kl_aZ G 24 g) := (fr57 _ (by decide) (by decide) (by decide)).trans f12
          have frm : ∀ j : Nat, j < 48 → j ≠ 0 → j ≠ 7 → j ≠ 8 → j ≠ 10 → j ≠ 11 → j ≠ 13 → w52 j = w j := fun j hj k0 k1 k2 k3 k4 k5 => (fr57 j hj k1 k2).trans (frm j hj k0 k1 k2 k3 k4 k5)
          refine lv_iload hx hb dX4_delete_71 (lv_at hl 0 rfl) ?_
          refine W.widen (k := 2) (n := 12) (by omega) (by omega) ?_
          refine vx_ret ?_
          exact kl_iret hx hb hr hlocks hP ⟨hok, q, g1, g, d2, _, by omega, hcq, hmk, hfr, hfin, hwr, hkp, rfl, hst9, k0, hru, f55, f56, ⟨_, _, f45, f50⟩, frm, ⟨_, f12⟩⟩ dX4_delete_73
        · refine lv_aload_n hx hb dX4_delete_34 rfl (lv_at hl 0 rfl) ?_
          refine kl_cVi (C := RX4) (i := 0) (As := []) (rest := []) ⟨hx, hb, hml, hown, hts⟩ (c_X4_spreadGoing l G B _ k0 k2 f12 k6 k7 k8 hru (by omega) hu hpar) (cwV 0 hts gX4_delete_X4_spreadGoing rfl rfl rfl (by decide +kernel) ⟨Nat.le_of_ble_eq_true rfl, Nat.le_of_ble_eq_true rfl⟩) hK hP k0 rfl rfl hl.1 rfl (Nat.le_of_ble_eq_true rfl) dX4_delete_35 ⟨Nat.le_of_ble_eq_true rfl, Nat.le_of_ble_eq_true rfl⟩ (fun r60 w58 H locs q59 hP => ?_)
          obtain ⟨⟨g63, mm64, rfl, f61, hfr65, hsp66⟩, fr62⟩ := q59
          have k0 : w58 0 = some (.inr (4, [.ref (B + 1), .int (nI nT), .ref (B + 2), .int (nI nL), .ref (B + 3), .int (nI nS), .ref (B + 4), .int (nI nC), .ref (B + 5), .int (nI nW), .ref (B + 6), .ref (B + 9), .ref (B + 12), .int (nI nM), .ref (B + 13), .int rs])) := (fr62 _ (by decide)).trans k0
          have k1 : w58 1 = some (kl_aI G 4 ((fun t => nI (cn t)))) := (fr62 _ (by decide)).trans k1
          have k2 : w58 2 = some (kl_aR G 3 6 lf) := (fr62 _ (by decide)).trans k2
          have k3 : w58 3 = some (kl_aR G 4 4 sf) := (fr62 _ (by decide)).trans k3
          have k4 : w58 4 = some (kl_aR G 5 4 cf) := (fr62 _ (by decide)).trans k4
          have k6 : w58 6 = some (.inr (2, [.ref (B + 7), .ref (B + 8)])) := (fr62 _ (by decide)).trans k6
          have k7 : w58 7 = some (kl_aI G 24 T) := (fr62 _ (by decide)).trans k7
          have k8 : w58 8 = some (kl_aI G 96 C) := (fr62 _ (by decide)).trans k8
          have k9 : w58 9 = some (.inr (2, [.ref (B + 10), .ref (B + 11)])) := (fr62 _ (by decide)).trans k9
          have k10 : w58 10 = some (kl_aI G 24 dT) := (fr62 _ (by decide)).trans k10
          have k11 : w58 11 = some (kl_aI G 96 dC) := (fr62 _ (by decide)).trans k11
          have hru := kl_RU.mv hru (fun j hj => fr62 j (by omega))
          have frm : ∀ j : Nat, j < 48 → j ≠ 0 → j ≠ 7 → j ≠ 8 → j ≠ 10 → j ≠ 11 → j ≠ 13 → w58 j = w j := fun j hj k0 k1 k2 k3 k4 k5 => (fr62 j k5).trans (frm j hj k0 k1 k2 k3 k4 k5)
          refine lv_istore (lv' := [(4, .int (nI mm64)), (0, .ref (B + 0)), (1, .int t), (2, .int (nI q)), (3, .int x), (5, .int (nI rd))]) hx hb dX4_delete_38 hl (by decide) rfl (fun ls hl => ?_)
          refine lv_iinc (v := nI (rd + 1)) (lv' := [(5, .int (nI (rd + 1))), (4, .int (nI mm64)), (0, .ref (B + 0)), (1, .int t), (2, .int (nI q)), (3, .int x)]) hx hb dX4_delete_40 hl (k := 5) rfl (nI_1 _) (by decide) rfl (fun ls hl => ?_)
          refine lv_goto (tgt := 22) hx hb dX4_delete_43 (by decide) ?_
          exact ih22 (rd + 1) mm64 g63 (by omega) (by first | omega | grind) (hfr.tr hfr65) (hrd.next (by omega) hsp66) _ _ _ k0 k1 k2 k3 k4 k6 k7 k8 k9 k10 k11 f61 hru frm hP ls (lv_sub hl [2, 3, 4, 5, 1, 0] rfl)
  exact lp22 (24 + 1) 0 1 g1 (Nat.lt_succ_of_le (by omega)) (by first | omega | grind) mt_from.rf (Or.inr ⟨rfl, Nat.zero_le _⟩) _ _ _ k0 k1 k2 k3 k4 k6 k7 k8 k9 k10 k11 f12 hru frm hP ls (lv_sub hl [2, 3, 4, 5, 1, 0] rfl)

abbrev rm_X4_update : Room := { frames := 8, cells := 3, slots := 18, locals := 135 }
set_option maxHeartbeats 4000000 in
set_option maxRecDepth 100000 in
theorem c_X4_update (l : Launch) (hst : l.stackTraces = false) (G : kl_G) (B : Nat) (w : kl_M) {nT nW nM : Nat} {rs : Int32} {nL nS nC : Nat} {lf sf cf : Nat → Option Nat} {la : Nat → Nat} {lch : Nat → Int32} {lco : Nat → Nat} {lpa lwy : Nat → Int32} {sa : Nat → Nat} {stb : Nat → Int32} {sco ca cwa cpa : Nat → Nat} {ctb : Nat → Int32} {cln : Nat → Nat} {cwd : Nat → Nat → Nat} {ccol : Nat → Nat} {cn : Nat → Nat} {T C dT dC : Nat → Int32} (t k c x : Int32) (k0 : w 0 = some (.inr (4, [.ref (B + 1), .int (nI nT), .ref (B + 2), .int (nI nL), .ref (B + 3), .int (nI nS), .ref (B + 4), .int (nI nC), .ref (B + 5), .int (nI nW), .ref (B + 6), .ref (B + 9), .ref (B + 12), .int (nI nM), .ref (B + 13), .int rs]))) (k1 : w 1 = some (kl_aI G 4 ((fun t => nI (cn t))))) (k2 : w 2 = some (kl_aR G 3 6 lf)) (k3 : w 3 = some (kl_aR G 4 4 sf)) (k4 : w 4 = some (kl_aR G 5 4 cf)) (k6 : w 6 = some (.inr (2, [.ref (B + 7), .ref (B + 8)]))) (k7 : w 7 = some (kl_aI G 24 T)) (k8 : w 8 = some (kl_aI G 96 C)) (k9 : w 9 = some (.inr (2, [.ref (B + 10), .ref (B + 11)]))) (k10 : w 10 = some (kl_aI G 24 dT)) (k11 : w 11 = some (kl_aI G 96 dC)) (hnn : nT ≤ 4 ∧ nL ≤ 6 ∧ nS ≤ 4 ∧ nC ≤ 4 ∧ nW ≤ 10 ∧ nM ≤ 4) (hru : kl_RU G B w nL lf la lch lco lpa lwy nS sf sa stb sco nC cf ca cwa cpa ctb cln cwd ccol) (hcn4 : ∀ j, j < nT → cn j ≤ 4) (hu : mt_uniq T C) (hpar : ∀ l, l < nL → lpa l ≠ -1) : vx_Met l yX4_update wsX4_update rm_X4_update (kl_Px G B w [.ref (B + 0), .int t, .int k, .int c, .int x]) (kl_Qi G B (fun r w1 => (mt_col t c nT cn ∧ (c ≠ 0 ∨ x ≠ 0)) ∧ ∃ p q kp d2, p < 24 ∧ q < 4 ∧ c = nI q ∧ T p = t ∧ C (4 * p) = k ∧ r = C (4 * p + q) ∧ mt_up T C nL lch lco lpa lwy p q x kp d2 ∧ mt_st kp (mt_why T d2 nT nS stb sco nL lch lco lpa nC ctb cwd cln) (nI 0) ∧ w1 0 = some (.inr (4, [.ref (B + 1), .int (nI nT), .ref (B + 2), .int (nI nL), .ref (B + 3), .int (nI nS), .ref (B + 4), .int (nI nC), .ref (B + 5), .int (nI nW), .ref (B + 6), .ref (B + 9), .ref (B + 12), .int (nI nM), .ref (B + 13), .int rs])) ∧ kl_RU G B w1 nL lf la lch lco lpa lwy nS sf sa stb sco nC cf ca cwa cpa ctb cln cwd ccol ∧ w1 7 = some (kl_aI G 24 T) ∧ w1 8 = some (kl_aI G 96 d2) ∧ kl_dr G w1 ∧ ∀ j : Nat, j < 48 → j ≠ 0 → j ≠ 7 → j ≠ 8 → j ≠ 10 → j ≠ 11 → w1 j = w j)) (kl_X G B (fun E w1 => (E = "java/lang/IllegalArgumentException" ∧ w1 = w ∧ ¬ (mt_col t c nT cn ∧ (c ≠ 0 ∨ x ≠ 0))) ∨ (E = "java/util/NoSuchElementException" ∧ w1 = w ∧ (mt_col t c nT cn ∧ (c ≠ 0 ∨ x ≠ 0)) ∧ ¬ mt_has T C t k) ∨ (E = "java/lang/IllegalStateException" ∧ (mt_col t c nT cn ∧ (c ≠ 0 ∨ x ≠ 0)) ∧ ∃ p q kp d2, p < 24 ∧ q < 4 ∧ c = nI q ∧ T p = t ∧ C (4 * p) = k ∧ mt_up T C nL lch lco lpa lwy p q x kp d2 ∧ ∃ r, r ≠ 0 ∧ mt_st kp (mt_why T d2 nT nS stb sco nL lch lco lpa nC ctb cwd cln) r ∧ w1 0 = some (.inr (4, [.ref (B + 1), .int (nI nT), .ref (B + 2), .int (nI nL), .ref (B + 3), .int (nI nS), .ref (B + 4), .int (nI nC), .ref (B + 5), .int (nI nW), .ref (B + 6), .ref (B + 9), .ref (B + 12), .int (nI nM), .ref (B + 13), .int r])) ∧ kl_RU G B w1 nL lf la lch lco lpa lwy nS sf sa stb sco nC cf ca cwa cpa ctb cln cwd ccol ∧ w1 7 = some (kl_aI G 24 T) ∧ w1 8 = some (kl_aI G 96 C) ∧ kl_dr G w1 ∧ ∀ j : Nat, j < 48 → j ≠ 0 → j ≠ 7 → j ≠ 8 → j ≠ 10 → j ≠ 11 → w1 j = w j))) 3 18 (kl_fr B) := by
  refine vx_ofW (cc := cX4_update) (maxL := 7) (ret := (some .int)) (by decide) rfl ?_
  intro pg e s m args below meth cd s₁ Bd hml hout hv
  obtain ⟨rfl, hP0, hK, hZ⟩ := hv
  have hx := Bd.exec
  have hb := Bd.bytes
  have hr := Bd.returns
  have hts := atoms_spec (ws := wsX4_update) Bd.pre
  have hown : s.vm.findClass RX4 = some m.cls := findClass_of_methodNamed Bd.named
  have hlocks := Bd.notSynchronized
  have hinX4 : ∀ w ∈ u_ws RX4 TX4 16, w ∈ wsX4_update := by decide +kernel
  have hP := kl_S.rf hP0
  have hl := lv_entry ([.ref (B + 0), .int t, .int k, .int c, .int x]) (n := 7) (Nat.le_of_ble_eq_true rfl)
  rw [lg_entry_eq]
  generalize (lg_sl ([.ref (B + 0), .int t, .int k, .int c, .int x]) ++ List.replicate (7 - (lg_sl ([.ref (B + 0), .int t, .int k, .int c, .int x])).length) Slot.unset).toArray = ls at hl ⊢
  have hl : lv_has ls 7 [(0, .ref (B + 0)), (1, .int t), (2, .int k), (3, .int c), (4, .int x)] := hl
  have frm : ∀ j : Nat, j < 48 → j ≠ 0 → j ≠ 7 → j ≠ 8 → j ≠ 10 → j ≠ 11 → w j = w j := fun j _ _ _ _ _ _ => rfl
  obtain ⟨m1, m2, m3, m4, m5, m6⟩ := hnn
  refine lv_aload_n hx hb dX4_update_0 rfl (lv_at hl 0 rfl) ?_
  refine lv_iload_n hx hb dX4_update_1 rfl (lv_at hl 1 rfl) ?_
  refine lv_iload_n hx hb dX4_update_2 rfl (lv_at hl 3 rfl) ?_
  refine kl_cVi (C := RX4) (i := 0) (As := [.int t, .int c]) (rest := []) ⟨hx, hb, hml, hown, hts⟩ (c_X4_isColumn l G B _ t c k0 k1 (by omega) hcn4) (cwV 2 hts gX4_update_X4_isColumn rfl rfl rfl (by decide +kernel) ⟨Nat.le_of_ble_eq_true rfl, Nat.le_of_ble_eq_true rfl⟩) hK hP k0 rfl rfl hl.1 rfl (Nat.le_of_ble_eq_true rfl) dX4_update_3 ⟨Nat.le_of_ble_eq_true rfl, Nat.le_of_ble_eq_true rfl⟩ (fun r3 w1 H locs q2 hP => ?_)
  obtain ⟨rfl, hv4⟩ := q2
  refine kl_ifeq (tgt := 22) hx hb hv4 dX4_update_6 (by decide) (fun c6 => ?_) (fun c6 => ?_)
  · refine lv_iconst (v := nI 0) hx hb dX4_update_22 (by decide) ?_
    refine klx_cSv (As := [.int (nI 0)]) (rest := []) ⟨hx, hb, hml, hown, hts⟩ (c_X4_needArgument l hst G B _ (nI 0) (kl_b.f (P := False) not_false)) (va_cwS 1 hts gX4_update_X4_needArgument rfl rfl rfl (by decide +kernel) ⟨Nat.le_of_ble_eq_true rfl, Nat.le_of_ble_eq_true rfl⟩) hK hZ hP rfl hl.1 rfl (Nat.le_of_ble_eq_true rfl) dX4_update_23 ⟨Nat.le_of_ble_eq_true rfl, Nat.le_of_ble_eq_true rfl⟩ (fun E ce q9 w9 H locs hpx hP h9 hv9 hc9 => kl_out hout hlocks hP (Or.inl ⟨hpx.1, hpx.2.1.symm, fun z => c6 z.1⟩) h9 hv9 hc9 (Nat.le_of_ble_eq_true rfl) (Nat.le_of_ble_eq_true rfl)) (fun w5 H locs q6 hP => ?_)
    exact (q6.2).elim
  · refine lv_iload_n hx hb dX4_update_9 rfl (lv_at hl 3 rfl) ?_
    refine lv_if_ne (tgt := 18) hx hb dX4_update_10 (by decide) (fun c10 => ?_) (fun c10 => ?_)
    · refine lv_iconst (v := nI 1) hx hb dX4_update_18 (by decide) ?_
      refine lv_goto (tgt := 23) hx hb dX4_update_19 (by decide) ?_
      refine klx_cSv (As := [.int (nI 1)]) (rest := []) ⟨hx, hb, hml, hown, hts⟩ (c_X4_needArgument l hst G B _ (nI 1) (kl_b.t (P := True) trivial)) (va_cwS 1 hts gX4_update_X4_needArgument rfl rfl rfl (by decide +kernel) ⟨Nat.le_of_ble_eq_true rfl, Nat.le_of_ble_eq_true rfl⟩) hK hZ hP rfl hl.1 rfl (Nat.le_of_ble_eq_true rfl) dX4_update_23 ⟨Nat.le_of_ble_eq_true rfl, Nat.le_of_ble_eq_true rfl⟩ (fun _ _ _ _ _ _ hpx _ _ _ _ => (hpx.2.2 trivial).elim) (fun w8 H locs q9 hP => ?_)
      obtain ⟨rfl, ok11⟩ := q9
      have hok : (mt_col t c nT cn ∧ (c ≠ 0 ∨ x ≠ 0)) := ⟨c6, Or.inl c10⟩
      obtain ⟨jj, q, hjj, rfl, hq4, rfl⟩ := c6
      have hq5 := hcn4 jj hjj
      have hq0 : 0 < q := Nat.pos_of_ne_zero (fun z => c10 (by rw [z]; rfl))
      refine lv_aload_n hx hb dX4_update_26 rfl (lv_at hl 0 rfl) ?_
      refine kl_get (C := RX4) (T := TX4) (N := 16) (ci := 4) hx hb hts hinX4 hown hK hP k0 rfl 10 (by decide) (hts (.fieldLink RX4 53 "KinLedger" "rows" "LKinLedger$Rows;") (by decide +kernel)) (fun _ h9 => h9) rfl dX4_update_27 ?_
      refine lv_iload_n hx hb dX4_update_30 rfl (lv_at hl 1 rfl) ?_
      refine lv_iload_n hx hb dX4_update_31 rfl (lv_at hl 2 rfl) ?_
      refine kl_cVi (C := RX2) (i := 6) (As := [.int (nI jj), .int k]) (rest := []) ⟨hx, hb, hml, hown, hts⟩ (c_X2_find l G B _ 6 7 8 (nI jj) k k6 k7 k8 ) (cwV 2 hts gX4_update_X2_find rfl rfl rfl (by decide +kernel) ⟨Nat.le_of_ble_eq_true rfl, Nat.le_of_ble_eq_true rfl⟩) hK hP k6 rfl rfl hl.1 rfl (Nat.le_of_ble_eq_true rfl) dX4_update_32 ⟨Nat.le_of_ble_eq_true rfl, Nat.le_of_ble_eq_true rfl⟩ (fun r14 w12 H locs q13 hP => ?_)
      obtain ⟨rfl, hv15⟩ := q13
      rcases hv15 with ⟨rfl, hv15⟩ | ⟨p16, hp16, rfl, hv15⟩
      · refine lv_istore (lv' := [(5, .int ((-1))), (0, .ref (B + 0)), (1, .int (nI jj)), (2, .int k), (3, .int (nI q)), (4, .int x)]) hx hb dX4_update_35 hl (by decide) rfl (fun ls hl => ?_)
        refine lv_iload hx hb dX4_update_37 (lv_at hl 0 rfl) ?_
        refine lv_iconst (v := (-1)) hx hb dX4_update_39 (by decide) ?_
        refine lv_icmp_eq (tgt := 47) hx hb dX4_update_40 (by decide) (fun c40 => ?_) (fun c40 => absurd rfl c40)
        refine lv_iconst (v := nI 0) hx hb dX4_update_47 (by decide) ?_
        refine klx_cSv (As := [.int (nI 0)]) (rest := []) ⟨hx, hb, hml, hown, hts⟩ (c_X4_needElement l hst G B _ (nI 0) (kl_b.f (P := False) not_false)) (va_cwS 1 hts gX4_update_X4_needElement rfl rfl rfl (by decide +kernel) ⟨Nat.le_of_ble_eq_true rfl, Nat.le_of_ble_eq_true rfl⟩) hK hZ hP rfl hl.1 rfl (Nat.le_of_ble_eq_true rfl) dX4_update_48 ⟨Nat.le_of_ble_eq_true rfl, Nat.le_of_ble_eq_true rfl⟩ (fun E ce q9 w9 H locs hpx hP h9 hv9 hc9 => kl_out hout hlocks hP (Or.inr (Or.inl ⟨hpx.1, hpx.2.1.symm, hok, mt_has_n hv15⟩)) h9 hv9 hc9 (Nat.le_of_ble_eq_true rfl) (Nat.le_of_ble_eq_true rfl)) (fun w17 H locs q18 hP => ?_)
        exact (q18.2).elim
      · refine lv_istore (lv' := [(5, .int (nI p16)), (0, .ref (B + 0)), (1, .int (nI jj)), (2, .int k), (3, .int (nI q)), (4, .int x)]) hx hb dX4_update_35 hl (by decide) rfl (fun ls hl => ?_)
        refine lv_iload hx hb dX4_update_37 (lv_at hl 0 rfl) ?_
        refine lv_iconst (v := (-1)) hx hb dX4_update_39 (by decide) ?_
        refine lv_icmp_eq (tgt := 47) hx hb dX4_update_40 (by decide) (fun c40 => absurd c40 (kl_nm1 (by omega))) (fun c40 => ?_)
        refine lv_iconst (v := nI 1) hx hb dX4_update_43 (by decide) ?_
        refine lv_goto (tgt := 48) hx hb dX4_update_44 (by decide) ?_
        refine klx_cSv (As := [.int (nI 1)]) (rest := []) ⟨hx, hb, hml, hown, hts⟩ (c_X4_needElement l hst G B _ (nI 1) (kl_b.t (P := True) trivial)) (va_cwS 1 hts gX4_update_X4_needElement rfl rfl rfl (by decide +kernel) ⟨Nat.le_of_ble_eq_true rfl, Nat.le_of_ble_eq_true rfl⟩) hK hZ hP rfl hl.1 rfl (Nat.le_of_ble_eq_true rfl) dX4_update_48 ⟨Nat.le_of_ble_eq_true rfl, Nat.le_of_ble_eq_true rfl⟩ (fun _ _ _ _ _ _ hpx _ _ _ _ => (hpx.2.2 trivial).elim) (fun w20 H locs q21 hP => ?_)
        obtain ⟨rfl, ok23⟩ := q21
        refine lv_aload_n hx hb dX4_update_51 rfl (lv_at hl 1 rfl) ?_
        refine kl_get (C := RX4) (T := TX4) (N := 16) (ci := 4) hx hb hts hinX4 hown hK hP k0 rfl 10 (by decide) (hts (.fieldLink RX4 53 "KinLedger" "rows" "LKinLedger$Rows;") (by decide +kernel)) (fun _ h9 => h9) rfl dX4_update_52 ?_
        refine lv_iload hx hb dX4_update_55 (lv_at hl 0 rfl) ?_
        refine lv_iload_n hx hb dX4_update_57 rfl (lv_at hl 4 rfl) ?_
        refine kl_cVi (C := RX2) (i := 6) (As := [.int (nI p16), .int (nI q)]) (rest := []) ⟨hx, hb, hml, hown, hts⟩ (c_X2_at l G B _ 6 7 8 p16 q k6 k7 k8 (by omega) (by omega)) (cwV 2 hts gX4_update_X2_at rfl rfl rfl (by decide +kernel) ⟨Nat.le_of_ble_eq_true rfl, Nat.le_of_ble_eq_true rfl⟩) hK hP k6 rfl rfl hl.1 rfl (Nat.le_of_ble_eq_true rfl) dX4_update_58 ⟨Nat.le_of_ble_eq_true rfl, Nat.le_of_ble_eq_true rfl⟩ (fun r26 w24 H locs q25 hP => ?_)
        obtain ⟨rfl, rfl⟩ := q25
        refine kl_top (z := C (4 * p16 + q)) rfl ?_
        refine lv_istore (lv' := [(6, .int (C (4 * p16 + q))), (5, .int (nI p16)), (0, .ref (B + 0)), (1, .int (nI jj)), (2, .int k), (3, .int (nI q)), (4, .int x)]) hx hb dX4_update_61 hl (by decide) rfl (fun ls hl => ?_)
        refine lv_aload_n hx hb dX4_update_63 rfl (lv_at hl 2 rfl) ?_
        refine kl_get (C := RX4) (T := TX4) (N := 16) (ci := 4) hx hb hts hinX4 hown hK hP k0 rfl 11 (by decide) (hts (.fieldLink RX4 57 "KinLedger" "draft" "LKinLedger$Rows;") (by decide +kernel)) (fun _ h9 => h9) rfl dX4_update_64 ?_
        refine lv_aload_n hx hb dX4_update_67 rfl (lv_at hl 2 rfl) ?_
        refine kl_get (C := RX4) (T := TX4) (N := 16) (ci := 4) hx hb hts hinX4 hown hK hP k0 rfl 10 (by decide) (hts (.fieldLink RX4 53 "KinLedger" "rows" "LKinLedger$Rows;") (by decide +kernel)) (fun _ h9 => h9) rfl dX4_update_68 ?_
        refine kl_cVv (C := RX2) (i := 9) (As := [.ref (B + 6)]) (rest := []) ⟨hx, hb, hml, hown, hts⟩ (c_X2_become l G B _ 9 10 11 6 7 8 k9 k10 k11 k6 k7 k8 (by omega)) (cwV 1 hts gX4_update_X2_become rfl rfl rfl (by decide +kernel) ⟨Nat.le_of_ble_eq_true rfl, Nat.le_of_ble_eq_true rfl⟩) hK hP k9 rfl rfl hl.1 rfl (Nat.le_of_ble_eq_true rfl) dX4_update_71 ⟨Nat.le_of_ble_eq_true rfl, Nat.le_of_ble_eq_true rfl⟩ (fun w27 H locs q28 hP => ?_)
        obtain ⟨f30, f31, fr32⟩ := q28
        have k0 : w27 0 = some (.inr (4, [.ref (B + 1), .int (nI nT), .ref (B + 2), .int (nI nL), .ref (B + 3), .int (nI nS), .ref (B + 4), .int (nI nC), .ref (B + 5), .int (nI nW), .ref (B + 6), .ref (B + 9), .ref (B + 12), .int (nI nM), .ref (B + 13), .int rs])) := (fr32 _ (by decide) (by decide)).trans k0
        have k1 : w27 1 = some (kl_aI G 4 ((fun t => nI (cn t)))) := (fr32 _ (by decide) (by decide)).trans k1
        have k2 : w27 2 = some (kl_aR G 3 6 lf) := (fr32 _ (by decide) (by decide)).trans k2
        have k3 : w27 3 = some (kl_aR G 4 4 sf) := (fr32 _ (by decide) (by decide)).trans k3
        have k4 : w27 4 = some (kl_aR G 5 4 cf) := (fr32 _ (by decide) (by decide)).trans k4
        have k6 : w27 6 = some (.inr (2, [.ref (B + 7), .ref (B + 8)])) := (fr32 _ (by decide) (by decide)).trans k6
        have k7 : w27 7 = some (kl_aI G 24 T) := (fr32 _ (by decide) (by decide)).trans k7
        have k8 : w27 8 = some (kl_aI G 96 C) := (fr32 _ (by decide) (by decide)).trans k8
        have k9 : w27 9 = some (.inr (2, [.ref (B + 10), .ref (B + 11)])) := (fr32 _ (by decide) (by decide)).trans k9
        have hru := kl_RU.mv hru (fun j hj => fr32 j (by omega) (by omega))
        have frm : ∀ j : Nat, j < 48 → j ≠ 0 → j ≠ 7 → j ≠ 8 → j ≠ 10 → j ≠ 11 → w27 j = w j := fun j hj k0 k1 k2 k3 k4 => (fr32 j k3 k4).trans (frm j hj k0 k1 k2 k3 k4)
        refine lv_aload_n hx hb dX4_update_74 rfl (lv_at hl 2 rfl) ?_
        refine kl_get (C := RX4) (T := TX4) (N := 16) (ci := 4) hx hb hts hinX4 hown hK hP k0 rfl 11 (by decide) (hts (.fieldLink RX4 57 "KinLedger" "draft" "LKinLedger$Rows;") (by decide +kernel)) (fun _ h9 => h9) rfl dX4_update_75 ?_
        refine lv_iload hx hb dX4_update_78 (lv_at hl 1 rfl) ?_
        refine lv_iload_n hx hb dX4_update_80 rfl (lv_at hl 5 rfl) ?_
        refine lv_iload hx hb dX4_update_81 (lv_at hl 6 rfl) ?_
        refine kl_cVv (C := RX2) (i := 9) (As := [.int (nI p16), .int (nI q), .int x]) (rest := []) ⟨hx, hb, hml, hown, hts⟩ (c_X2_put l G B _ 9 10 11 p16 q x k9 f30 f31 (by omega) (by omega) (by omega) (by omega)) (cwV 3 hts gX4_update_X2_put rfl rfl rfl (by decide +kernel) ⟨Nat.le_of_ble_eq_true rfl, Nat.le_of_ble_eq_true rfl⟩) hK hP k9 rfl rfl hl.1 rfl (Nat.le_of_ble_eq_true rfl) dX4_update_83 ⟨Nat.le_of_ble_eq_true rfl, Nat.le_of_ble_eq_true rfl⟩ (fun w33 H locs q34 hP => ?_)
        obtain ⟨f36, fr37⟩ := q34
        have f36 : w33 11 = some (kl_aI G 96 (upd C (4 * p16 + q) x)) := f36
        have k0 : w33 0 = some (.inr (4, [.ref (B + 1), .int (nI nT), .ref (B + 2), .int (nI nL), .ref (B + 3), .int (nI nS), .ref (B + 4), .int (nI nC), .ref (B + 5), .int (nI nW), .ref (B + 6), .ref (B + 9), .ref (B + 12), .int (nI nM), .ref (B + 13), .int rs])) := (fr37 _ (by decide)).trans k0
        have k1 : w33 1 = some (kl_aI G 4 ((fun t => nI (cn t)))) := (fr37 _ (by decide)).trans k1
        have k2 : w33 2 = some (kl_aR G 3 6 lf) := (fr37 _ (by decide)).trans k2
        have k3 : w33 3 = some (kl_aR G 4 4 sf) := (fr37 _ (by decide)).trans k3
        have k4 : w33 4 = some (kl_aR G 5 4 cf) := (fr37 _ (by decide)).trans k4
        have k6 : w33 6 = some (.inr (2, [.ref (B + 7), .ref (B + 8)])) := (fr37 _ (by decide)).trans k6
        have k7 : w33 7 = some (kl_aI G 24 T) := (fr37 _ (by decide)).trans k7
        have k8 : w33 8 = some (kl_aI G 96 C) := (fr37 _ (by decide)).trans k8
        have k9 : w33 9 = some (.inr (2, [.ref (B + 10), .ref (B + 11)])) := (fr37 _ (by decide)).trans k9
        have f30 : w33 10 = some (kl_aI G 24 T) := (fr37 _ (by decide)).trans f30
        have hru := kl_RU.mv hru (fun j hj => fr37 j (by omega))
        have frm : ∀ j : Nat, j < 48 → j ≠ 0 → j ≠ 7 → j ≠ 8 → j ≠ 10 → j ≠ 11 → w33 j = w j := fun j hj k0 k1 k2 k3 k4 => (fr37 j k4).trans (frm j hj k0 k1 k2 k3 k4)
        refine lv_aload_n hx hb dX4_update_86 rfl (lv_at hl 2 rfl) ?_
        refine lv_iload_n hx hb dX4_update_87 rfl (lv_at hl 5 rfl) ?_
        refine kl_z_ne (tgt := 109) hx hb (by omega) dX4_update_88 (by decide) (fun c88 => ?_) (fun c88 => absurd c88 (by omega))
        refine lv_iconst (v := (-1)) hx hb dX4_update_109 (by decide) ?_
        refine klx_cVv (C := RX4) (i := 0) (As := [.int ((-1))]) (rest := []) ⟨hx, hb, hml, hown, hts⟩ (c_X4_settle l hst G B _ ((-1)) k0 k2 k3 k4 k6 k7 k8 k9 f30 f36 ⟨by omega, by omega, by omega, by omega, by omega, by omega⟩ hru (Or.inl rfl)) (cwV 1 hts gX4_update_X4_settle rfl rfl rfl (by decide +kernel) ⟨Nat.le_of_ble_eq_true rfl, Nat.le_of_ble_eq_true rfl⟩) hK hZ hP k0 rfl rfl hl.1 rfl (Nat.le_of_ble_eq_true rfl) dX4_update_110 ⟨Nat.le_of_ble_eq_true rfl, Nat.le_of_ble_eq_true rfl⟩ (fun E ce q9 w9 H locs hpx hP h9 hv9 hc9 => kl_out hout hlocks hP (by obtain ⟨hE, r9, hr0, hst9, h09, hru9, hfr9⟩ := hpx; exact Or.inr (Or.inr ⟨hE, hok, p16, q, _, _, hp16, by omega, rfl, hv15.1, hv15.2, (Or.inl ⟨Or.inl (by omega), rfl, rfl⟩), r9, hr0, hst9, h09, hru9, (hfr9 7 (by decide) (by decide)).trans k7, (hfr9 8 (by decide) (by decide)).trans k8, ⟨_, _, (hfr9 10 (by decide) (by decide)).trans f30, (hfr9 11 (by decide) (by decide)).trans f36⟩, fun j hj k0 k1 k2 k3 k4 => (hfr9 j hj k0).trans (frm j hj k0 k1 k2 k3 k4)⟩)) h9 hv9 hc9 (Nat.le_of_ble_eq_true rfl) (Nat.le_of_ble_eq_true rfl)) (fun w38 H locs q39 hP => ?_)
        obtain ⟨hst9, hru, f41, f42, fr43⟩ := q39
        have k0 : w38 0 = some (.inr (4, [.ref (B + 1), .int (nI nT), .ref (B + 2), .int (nI nL), .ref (B + 3), .int (nI nS), .ref (B + 4), .int (nI nC), .ref (B + 5), .int (nI nW), .ref (B + 6), .ref (B + 9), .ref (B + 12), .int (nI nM), .ref (B + 13), .int rs])) := (fr43 _ (by decide) (by decide) (by decide)).trans k0
        have k1 : w38 1 = some (kl_aI G 4 ((fun t => nI (cn t)))) := (fr43 _ (by decide) (by decide) (by decide)).trans k1
        have k2 : w38 2 = some (kl_aR G 3 6 lf) := (fr43 _ (by decide) (by decide) (by decide)).trans k2
        have k3 : w38 3 = some (kl_aR G 4 4 sf) := (fr43 _ (by decide) (by decide) (by decide)).trans k3
        have k4 : w38 4 = some (kl_aR G 5 4 cf) := (fr43 _ (by decide) (by decide) (by decide)).trans k4
        have k6 : w38 6 = some (.inr (2, [.ref (B + 7), .ref (B + 8)])) := (fr43 _ (by decide) (by decide) (by decide)).trans k6
        have k9 : w38 9 = some (.inr (2, [.ref (B + 10), .ref (B + 11)])) := (fr43 _ (by decide) (by decide) (by decide)).trans k9
        have f30 : w38 10 = some (kl_aI G 24 T) := (fr43 _ (by decide) (by decide) (by decide)).trans f30
        have f36 : w38 11 = some (kl_aI G 96 (upd C (4 * p16 + q) x)) := (fr43 _ (by decide) (by decide) (by decide)).trans f36
        have frm : ∀ j : Nat, j < 48 → j ≠ 0 → j ≠ 7 → j ≠ 8 → j ≠ 10 → j ≠ 11 → w38 j = w j := fun j hj k0 k1 k2 k3 k4 => (fr43 j hj k1 k2).trans (frm j hj k0 k1 k2 k3 k4)
        refine lv_iload hx hb dX4_update_113 (lv_at hl 0 rfl) ?_
        refine W.widen (k := 3) (n := 18) (by omega) (by omega) ?_
        refine vx_ret ?_
        exact kl_iret hx hb hr hlocks hP ⟨hok, p16, q, _, _, hp16, by omega, rfl, hv15.1, hv15.2, rfl, (Or.inl ⟨Or.inl (by omega), rfl, rfl⟩), hst9, k0, hru, f41, f42, ⟨_, _, f30, f36⟩, frm⟩ dX4_update_115
    · refine lv_iload hx hb dX4_update_13 (lv_at hl 4 rfl) ?_
      refine lv_if_eq (tgt := 22) hx hb dX4_update_15 (by decide) (fun c15 => ?_) (fun c15 => ?_)
      · refine lv_iconst (v := nI 0) hx hb dX4_update_22 (by decide) ?_
        refine klx_cSv (As := [.int (nI 0)]) (rest := []) ⟨hx, hb, hml, hown, hts⟩ (c_X4_needArgument l hst G B _ (nI 0) (kl_b.f (P := False) not_false)) (va_cwS 1 hts gX4_update_X4_needArgument rfl rfl rfl (by decide +kernel) ⟨Nat.le_of_ble_eq_true rfl, Nat.le_of_ble_eq_true rfl⟩) hK hZ hP rfl hl.1 rfl (Nat.le_of_ble_eq_true rfl) dX4_update_23 ⟨Nat.le_of_ble_eq_true rfl, Nat.le_of_ble_eq_true rfl⟩ (fun E ce q9 w9 H locs hpx hP h9 hv9 hc9 => kl_out hout hlocks hP (Or.inl ⟨hpx.1, hpx.2.1.symm, fun z => z.2.elim (fun z => z c10) (fun z => z c15)⟩) h9 hv9 hc9 (Nat.le_of_ble_eq_true rfl) (Nat.le_of_ble_eq_true rfl)) (fun w44 H locs q45 hP => ?_)
        exact (q45.2).elim
      · refine lv_iconst (v := nI 1) hx hb dX4_update_18 (by decide) ?_
        refine lv_goto (tgt := 23) hx hb dX4_update_19 (by decide) ?_
        refine klx_cSv (As := [.int (nI 1)]) (rest := []) ⟨hx, hb, hml, hown, hts⟩ (c_X4_needArgument l hst G B _ (nI 1) (kl_b.t (P := True) trivial)) (va_cwS 1 hts gX4_update_X4_needArgument rfl rfl rfl (by decide +kernel) ⟨Nat.le_of_ble_eq_true rfl, Nat.le_of_ble_eq_true rfl⟩) hK hZ hP rfl hl.1 rfl (Nat.le_of_ble_eq_true rfl) dX4_update_23 ⟨Nat.le_of_ble_eq_true rfl, Nat.le_of_ble_eq_true rfl⟩ (fun _ _ _ _ _ _ hpx _ _ _ _ => (hpx.2.2 trivial).elim) (fun w47 H locs q48 hP => ?_)
        obtain ⟨rfl, ok50⟩ := q48
        have hok : (mt_col t c nT cn ∧ (c ≠ 0 ∨ x ≠ 0)) := ⟨c6, Or.inr c15⟩
        obtain ⟨jj, q, hjj, rfl, hq4, rfl⟩ := c6
        have hq5 := hcn4 jj hjj
        have hq0 : q = 0 := (kl_n0 (by omega)).mp c10
        subst hq0
        refine lv_aload_n hx hb dX4_update_26 rfl (lv_at hl 0 rfl) ?_
        refine kl_get (C := RX4) (T := TX4) (N := 16) (ci := 4) hx hb hts hinX4 hown hK hP k0 rfl 10 (by decide) (hts (.fieldLink RX4 53 "KinLedger" "rows" "LKinLedger$Rows;") (by decide +kernel)) (fun _ h9 => h9) rfl dX4_update_27 ?_
        refine lv_iload_n hx hb dX4_update_30 rfl (lv_at hl 1 rfl) ?_
        refine lv_iload_n hx hb dX4_update_31 rfl (lv_at hl 2 rfl) ?_
        refine kl_cVi (C := RX2) (i := 6) (As := [.int (nI jj), .int k]) (rest := []) ⟨hx, hb, hml, hown, hts⟩ (c_X2_find l G B _ 6 7 8 (nI jj) k k6 k7 k8 ) (cwV 2 hts gX4_update_X2_find rfl rfl rfl (by decide +kernel) ⟨Nat.le_of_ble_eq_true rfl, Nat.le_of_ble_eq_true rfl⟩) hK hP k6 rfl rfl hl.1 rfl (Nat.le_of_ble_eq_true rfl) dX4_update_32 ⟨Nat.le_of_ble_eq_true rfl, Nat.le_of_ble_eq_true rfl⟩ (fun r53 w51 H locs q52 hP => ?_)
        obtain ⟨rfl, hv54⟩ := q52
        rcases hv54 with ⟨rfl, hv54⟩ | ⟨p55, hp55, rfl, hv54⟩
        · refine lv_istore (lv' := [(5, .int ((-1))), (0, .ref (B + 0)), (1, .int (nI jj)), (2, .int k), (3, .int (nI 0)), (4, .int x)]) hx hb dX4_update_35 hl (by decide) rfl (fun ls hl => ?_)
          refine lv_iload hx hb dX4_update_37 (lv_at hl 0 rfl) ?_
          refine lv_iconst (v := (-1)) hx hb dX4_update_39 (by decide) ?_
          refine lv_icmp_eq (tgt := 47) hx hb dX4_update_40 (by decide) (fun c40 => ?_) (fun c40 => absurd rfl c40)
          refine lv_iconst (v := nI 0) hx hb dX4_update_47 (by decide) ?_
          refine klx_cSv (As := [.int (nI 0)]) (rest := []) ⟨hx, hb, hml, hown, hts⟩ (c_X4_needElement l hst G B _ (nI 0) (kl_b.f (P := False) not_false)) (va_cwS 1 hts gX4_update_X4_needElement rfl rfl rfl (by decide +kernel) ⟨Nat.le_of_ble_eq_true rfl, Nat.le_of_ble_eq_true rfl⟩) hK hZ hP rfl hl.1 rfl (Nat.le_of_ble_eq_true rfl) dX4_update_48 ⟨Nat.le_of_ble_eq_true rfl, Nat.le_of_ble_eq_true rfl⟩ (fun E ce q9 w9 H locs hpx hP h9 hv9 hc9 => kl_out hout hlocks hP (Or.inr (Or.inl ⟨hpx.1, hpx.2.1.symm, hok, mt_has_n hv54⟩)) h9 hv9 hc9 (Nat.le_of_ble_eq_true rfl) (Nat.le_of_ble_eq_true rfl)) (fun w56 H locs q57 hP => ?_)
          exact (q57.2).elim
        · refine lv_istore (lv' := [(5, .int (nI p55)), (0, .ref (B + 0)), (1, .int (nI jj)), (2, .int k), (3, .int (nI 0)), (4, .int x)]) hx hb dX4_update_35 hl (by decide) rfl (fun ls hl => ?_)
          refine lv_iload hx hb dX4_update_37 (lv_at hl 0 rfl) ?_
          refine lv_iconst (v := (-1)) hx hb dX4_update_39 (by decide) ?_
          refine lv_icmp_eq (tgt := 47) hx hb dX4_update_40 (by decide) (fun c40 => absurd c40 (kl_nm1 (by omega))) (fun c40 => ?_)
          refine lv_iconst (v := nI 1) hx hb dX4_update_43 (by decide) ?_
          refine lv_goto (tgt := 48) hx hb dX4_update_44 (by decide) ?_
          refine klx_cSv (As := [.int (nI 1)]) (rest := []) ⟨hx, hb, hml, hown, hts⟩ (c_X4_needElement l hst G B _ (nI 1) (kl_b.t (P := True) trivial)) (va_cwS 1 hts gX4_update_X4_needElement rfl rfl rfl (by decide +kernel) ⟨Nat.le_of_ble_eq_true rfl, Nat.le_of_ble_eq_true rfl⟩) hK hZ hP rfl hl.1 rfl (Nat.le_of_ble_eq_true rfl) dX4_update_48 ⟨Nat.le_of_ble_eq_true rfl, Nat.le_of_ble_eq_true rfl⟩ (fun _ _ _ _ _ _ hpx _ _ _ _ => (hpx.2.2 trivial).elim) (fun w59 H locs q60 hP => ?_)
          obtain ⟨rfl, ok62⟩ := q60
          refine lv_aload_n hx hb dX4_update_51 rfl (lv_at hl 1 rfl) ?_
          refine kl_get (C := RX4) (T := TX4) (N := 16) (ci := 4) hx hb hts hinX4 hown hK hP k0 rfl 10 (by decide) (hts (.fieldLink RX4 53 "KinLedger" "rows" "LKinLedger$Rows;") (by decide +kernel)) (fun _ h9 => h9) rfl dX4_update_52 ?_
          refine lv_iload hx hb dX4_update_55 (lv_at hl 0 rfl) ?_
          refine lv_iload_n hx hb dX4_update_57 rfl (lv_at hl 4 rfl) ?_
          refine kl_cVi (C := RX2) (i := 6) (As := [.int (nI p55), .int (nI 0)]) (rest := []) ⟨hx, hb, hml, hown, hts⟩ (c_X2_at l G B _ 6 7 8 p55 0 k6 k7 k8 (by omega) (by omega)) (cwV 2 hts gX4_update_X2_at rfl rfl rfl (by decide +kernel) ⟨Nat.le_of_ble_eq_true rfl, Nat.le_of_ble_eq_true rfl⟩) hK hP k6 rfl rfl hl.1 rfl (Nat.le_of_ble_eq_true rfl) dX4_update_58 ⟨Nat.le_of_ble_eq_true rfl, Nat.le_of_ble_eq_true rfl⟩ (fun r65 w63 H locs q64 hP => ?_)
          obtain ⟨rfl, rfl⟩ := q64
          refine kl_top (z := C (4 * p55)) rfl ?_
          refine lv_istore (lv' := [(6, .int (C (4 * p55))), (5, .int (nI p55)), (0, .ref (B + 0)), (1, .int (nI jj)), (2, .int k), (3, .int (nI 0)), (4, .int x)]) hx hb dX4_update_61 hl (by decide) rfl (fun ls hl => ?_)
          refine lv_aload_n hx hb dX4_update_63 rfl (lv_at hl 2 rfl) ?_
          refine kl_get (C := RX4) (T := TX4) (N := 16) (ci := 4) hx hb hts hinX4 hown hK hP k0 rfl 11 (by decide) (hts (.fieldLink RX4 57 "KinLedger" "draft" "LKinLedger$Rows;") (by decide +kernel)) (fun _ h9 => h9) rfl dX4_update_64 ?_
          refine lv_aload_n hx hb dX4_update_67 rfl (lv_at hl 2 rfl) ?_
          refine kl_get (C := RX4) (T := TX4) (N := 16) (ci := 4) hx hb hts hinX4 hown hK hP k0 rfl 10 (by decide) (hts (.fieldLink RX4 53 "KinLedger" "rows" "LKinLedger$Rows;") (by decide +kernel)) (fun _ h9 => h9) rfl dX4_update_68 ?_
          refine kl_cVv (C := RX2) (i := 9) (As := [.ref (B + 6)]) (rest := []) ⟨hx, hb, hml, hown, hts⟩ (c_X2_become l G B _ 9 10 11 6 7 8 k9 k10 k11 k6 k7 k8 (by omega)) (cwV 1 hts gX4_update_X2_become rfl rfl rfl (by decide +kernel) ⟨Nat.le_of_ble_eq_true rfl, Nat.le_of_ble_eq_true rfl⟩) hK hP k9 rfl rfl hl.1 rfl (Nat.le_of_ble_eq_true rfl) dX4_update_71 ⟨Nat.le_of_ble_eq_true rfl, Nat.le_of_ble_eq_true rfl⟩ (fun w66 H locs q67 hP => ?_)
          obtain ⟨f69, f70, fr71⟩ := q67
          have k0 : w66 0 = some (.inr (4, [.ref (B + 1), .int (nI nT), .ref (B + 2), .int (nI nL), .ref (B + 3), .int (nI nS), .ref (B + 4), .int (nI nC), .ref (B + 5), .int (nI nW), .ref (B + 6), .ref (B + 9), .ref (B + 12), .int (nI nM), .ref (B + 13), .int rs])) := (fr71 _ (by decide) (by decide)).trans k0
          have k1 : w66 1 = some (kl_aI G 4 ((fun t => nI (cn t)))) := (fr71 _ (by decide) (by decide)).trans k1
          have k2 : w66 2 = some (kl_aR G 3 6 lf) := (fr71 _ (by decide) (by decide)).trans k2
          have k3 : w66 3 = some (kl_aR G 4 4 sf) := (fr71 _ (by decide) (by decide)).trans k3
          have k4 : w66 4 = some (kl_aR G 5 4 cf) := (fr71 _ (by decide) (by decide)).trans k4
          have k6 : w66 6 = some (.inr (2, [.ref (B + 7), .ref (B + 8)])) := (fr71 _ (by decide) (by decide)).trans k6
          have k7 : w66 7 = some (kl_aI G 24 T) := (fr71 _ (by decide) (by decide)).trans k7
          have k8 : w66 8 = some (kl_aI G 96 C) := (fr71 _ (by decide) (by decide)).trans k8
          have k9 : w66 9 = some (.inr (2, [.ref (B + 10), .ref (B + 11)])) := (fr71 _ (by decide) (by decide)).trans k9
          have hru := kl_RU.mv hru (fun j hj => fr71 j (by omega) (by omega))
          have frm : ∀ j : Nat, j < 48 → j ≠ 0 → j ≠ 7 → j ≠ 8 → j ≠ 10 → j ≠ 11 → w66 j = w j := fun j hj k0 k1 k2 k3 k4 => (fr71 j k3 k4).trans (frm j hj k0 k1 k2 k3 k4)
          refine lv_aload_n hx hb dX4_update_74 rfl (lv_at hl 2 rfl) ?_
          refine kl_get (C := RX4) (T := TX4) (N := 16) (ci := 4) hx hb hts hinX4 hown hK hP k0 rfl 11 (by decide) (hts (.fieldLink RX4 57 "KinLedger" "draft" "LKinLedger$Rows;") (by decide +kernel)) (fun _ h9 => h9) rfl dX4_update_75 ?_
          refine lv_iload hx hb dX4_update_78 (lv_at hl 1 rfl) ?_
          refine lv_iload_n hx hb dX4_update_80 rfl (lv_at hl 5 rfl) ?_
          refine lv_iload hx hb dX4_update_81 (lv_at hl 6 rfl) ?_
          refine kl_cVv (C := RX2) (i := 9) (As := [.int (nI p55), .int (nI 0), .int x]) (rest := []) ⟨hx, hb, hml, hown, hts⟩ (c_X2_put l G B _ 9 10 11 p55 0 x k9 f69 f70 (by omega) (by omega) (by omega) (by omega)) (cwV 3 hts gX4_update_X2_put rfl rfl rfl (by decide +kernel) ⟨Nat.le_of_ble_eq_true rfl, Nat.le_of_ble_eq_true rfl⟩) hK hP k9 rfl rfl hl.1 rfl (Nat.le_of_ble_eq_true rfl) dX4_update_83 ⟨Nat.le_of_ble_eq_true rfl, Nat.le_of_ble_eq_true rfl⟩ (fun w72 H locs q73 hP => ?_)
          obtain ⟨f75, fr76⟩ := q73
          have f75 : w72 11 = some (kl_aI G 96 (upd C (4 * p55) x)) := f75
          have k0 : w72 0 = some (.inr (4, [.ref (B + 1), .int (nI nT), .ref (B + 2), .int (nI nL), .ref (B + 3), .int (nI nS), .ref (B + 4), .int (nI nC), .ref (B + 5), .int (nI nW), .ref (B + 6), .ref (B + 9), .ref (B + 12), .int (nI nM), .ref (B + 13), .int rs])) := (fr76 _ (by decide)).trans k0
          have k1 : w72 1 = some (kl_aI G 4 ((fun t => nI (cn t)))) := (fr76 _ (by decide)).trans k1
          have k2 : w72 2 = some (kl_aR G 3 6 lf) := (fr76 _ (by decide)).trans k2
          have k3 : w72 3 = some (kl_aR G 4 4 sf) := (fr76 _ (by decide)).trans k3
          have k4 : w72 4 = some (kl_aR G 5 4 cf) := (fr76 _ (by decide)).trans k4
          have k6 : w72 6 = some (.inr (2, [.ref (B + 7), .ref (B + 8)])) := (fr76 _ (by decide)).trans k6
          have k7 : w72 7 = some (kl_aI G 24 T) := (fr76 _ (by decide)).trans k7
          have k8 : w72 8 = some (kl_aI G 96 C) := (fr76 _ (by decide)).trans k8
          have k9 : w72 9 = some (.inr (2, [.ref (B + 10), .ref (B + 11)])) := (fr76 _ (by decide)).trans k9
          have f69 : w72 10 = some (kl_aI G 24 T) := (fr76 _ (by decide)).trans f69
          have hru := kl_RU.mv hru (fun j hj => fr76 j (by omega))
          have frm : ∀ j : Nat, j < 48 → j ≠ 0 → j ≠ 7 → j ≠ 8 → j ≠ 10 → j ≠ 11 → w72 j = w j := fun j hj k0 k1 k2 k3 k4 => (fr76 j k4).trans (frm j hj k0 k1 k2 k3 k4)
          refine lv_aload_n hx hb dX4_update_86 rfl (lv_at hl 2 rfl) ?_
          refine lv_iload_n hx hb dX4_update_87 rfl (lv_at hl 5 rfl) ?_
          refine kl_z_ne (tgt := 109) hx hb (by omega) dX4_update_88 (by decide) (fun c88 => absurd c88 (by omega)) (fun c88 => ?_)
          refine lv_iload hx hb dX4_update_91 (lv_at hl 6 rfl) ?_
          refine lv_iload hx hb dX4_update_93 (lv_at hl 0 rfl) ?_
          refine lv_icmp_eq (tgt := 109) hx hb dX4_update_95 (by decide) (fun c95 => ?_) (fun c95 => ?_)
          · refine lv_iconst (v := (-1)) hx hb dX4_update_109 (by decide) ?_
            refine klx_cVv (C := RX4) (i := 0) (As := [.int ((-1))]) (rest := []) ⟨hx, hb, hml, hown, hts⟩ (c_X4_settle l hst G B _ ((-1)) k0 k2 k3 k4 k6 k7 k8 k9 f69 f75 ⟨by omega, by omega, by omega, by omega, by omega, by omega⟩ hru (Or.inl rfl)) (cwV 1 hts gX4_update_X4_settle rfl rfl rfl (by decide +kernel) ⟨Nat.le_of_ble_eq_true rfl, Nat.le_of_ble_eq_true rfl⟩) hK hZ hP k0 rfl rfl hl.1 rfl (Nat.le_of_ble_eq_true rfl) dX4_update_110 ⟨Nat.le_of_ble_eq_true rfl, Nat.le_of_ble_eq_true rfl⟩ (fun E ce q9 w9 H locs hpx hP h9 hv9 hc9 => kl_out hout hlocks hP (by obtain ⟨hE, r9, hr0, hst9, h09, hru9, hfr9⟩ := hpx; exact Or.inr (Or.inr ⟨hE, hok, p55, 0, _, _, hp55, by omega, rfl, hv54.1, hv54.2, (Or.inl ⟨Or.inr c95, rfl, rfl⟩), r9, hr0, hst9, h09, hru9, (hfr9 7 (by decide) (by decide)).trans k7, (hfr9 8 (by decide) (by decide)).trans k8, ⟨_, _, (hfr9 10 (by decide) (by decide)).trans f69, (hfr9 11 (by decide) (by decide)).trans f75⟩, fun j hj k0 k1 k2 k3 k4 => (hfr9 j hj k0).trans (frm j hj k0 k1 k2 k3 k4)⟩)) h9 hv9 hc9 (Nat.le_of_ble_eq_true rfl) (Nat.le_of_ble_eq_true rfl)) (fun w77 H locs q78 hP => ?_)
            obtain ⟨hst9, hru, f80, f81, fr82⟩ := q78
            have k0 : w77 0 = some (.inr (4, [.ref (B + 1), .int (nI nT), .ref (B + 2), .int (nI nL), .ref (B + 3), .int (nI nS), .ref (B + 4), .int (nI nC), .ref (B + 5), .int (nI nW), .ref (B + 6), .ref (B + 9), .ref (B + 12), .int (nI nM), .ref (B + 13), .int rs])) := (fr82 _ (by decide) (by decide) (by decide)).trans k0
            have k1 : w77 1 = some (kl_aI G 4 ((fun t => nI (cn t)))) := (fr82 _ (by decide) (by decide) (by decide)).trans k1
            have k2 : w77 2 = some (kl_aR G 3 6 lf) := (fr82 _ (by decide) (by decide) (by decide)).trans k2
            have k3 : w77 3 = some (kl_aR G 4 4 sf) := (fr82 _ (by decide) (by decide) (by decide)).trans k3
            have k4 : w77 4 = some (kl_aR G 5 4 cf) := (fr82 _ (by decide) (by decide) (by decide)).trans k4
            have k6 : w77 6 = some (.inr (2, [.ref (B + 7), .ref (B + 8)])) := (fr82 _ (by decide) (by decide) (by decide)).trans k6
            have k9 : w77 9 = some (.inr (2, [.ref (B + 10), .ref (B + 11)])) := (fr82 _ (by decide) (by decide) (by decide)).trans k9
            have f69 : w77 10 = some (kl_aI G 24 T) := (fr82 _ (by decide) (by decide) (by decide)).trans f69
            have f75 : w77 11 = some (kl_aI G 96 (upd C (4 * p55) x)) := (fr82 _ (by decide) (by decide) (by decide)).trans f75
            have frm : ∀ j : Nat, j < 48 → j ≠ 0 → j ≠ 7 → j ≠ 8 → j ≠ 10 → j ≠ 11 → w77 j = w j := fun j hj k0 k1 k2 k3 k4 => (fr82 j hj k1 k2).trans (frm j hj k0 k1 k2 k3 k4)
            refine lv_iload hx hb dX4_update_113 (lv_at hl 0 rfl) ?_
            refine W.widen (k := 3) (n := 18) (by omega) (by omega) ?_
            refine vx_ret ?_
            exact kl_iret hx hb hr hlocks hP ⟨hok, p55, 0, _, _, hp55, by omega, rfl, hv54.1, hv54.2, rfl, (Or.inl ⟨Or.inr c95, rfl, rfl⟩), hst9, k0, hru, f80, f81, ⟨_, _, f69, f75⟩, frm⟩ dX4_update_115
          · refine lv_aload_n hx hb dX4_update_98 rfl (lv_at hl 2 rfl) ?_
            refine lv_iload hx hb dX4_update_99 (lv_at hl 1 rfl) ?_
            refine lv_iload hx hb dX4_update_101 (lv_at hl 6 rfl) ?_
            refine kl_cVi (C := RX4) (i := 0) (As := [.int (nI p55), .int x]) (rest := [.ref (B + 0)]) ⟨hx, hb, hml, hown, hts⟩ (c_X4_passOnKey l G B _ p55 x k0 k2 k6 k7 k8 k9 f69 f75 hru (by omega) (by omega) hu hpar) (cwV 2 hts gX4_update_X4_passOnKey rfl rfl rfl (by decide +kernel) ⟨Nat.le_of_ble_eq_true rfl, Nat.le_of_ble_eq_true rfl⟩) hK hP k0 rfl rfl hl.1 rfl (Nat.le_of_ble_eq_true rfl) dX4_update_103 ⟨Nat.le_of_ble_eq_true rfl, Nat.le_of_ble_eq_true rfl⟩ (fun r85 w83 H locs q84 hP => ?_)
            obtain ⟨⟨d2, f86, hwr⟩, hkp, fr87⟩ := q84
            have k0 : w83 0 = some (.inr (4, [.ref (B + 1), .int (nI nT), .ref (B + 2), .int (nI nL), .ref (B + 3), .int (nI nS), .ref (B + 4), .int (nI nC), .ref (B + 5), .int (nI nW), .ref (B + 6), .ref (B + 9), .ref (B + 12), .int (nI nM), .ref (B + 13), .int rs])) := (fr87 _ (by decide)).trans k0
            have k1 : w83 1 = some (kl_aI G 4 ((fun t => nI (cn t)))) := (fr87 _ (by decide)).trans k1
            have k2 : w83 2 = some (kl_aR G 3 6 lf) := (fr87 _ (by decide)).trans k2
            have k3 : w83 3 = some (kl_aR G 4 4 sf) := (fr87 _ (by decide)).trans k3
            have k4 : w83 4 = some (kl_aR G 5 4 cf) := (fr87 _ (by decide)).trans k4
            have k6 : w83 6 = some (.inr (2, [.ref (B + 7), .ref (B + 8)])) := (fr87 _ (by decide)).trans k6
            have k7 : w83 7 = some (kl_aI G 24 T) := (fr87 _ (by decide)).trans k7
            have k8 : w83 8 = some (kl_aI G 96 C) := (fr87 _ (by decide)).trans k8
            have k9 : w83 9 = some (.inr (2, [.ref (B + 10), .ref (B + 11)])) := (fr87 _ (by decide)).trans k9
            have f69 : w83 10 = some (kl_aI G 24 T) := (fr87 _ (by decide)).trans f69
            have hru := kl_RU.mv hru (fun j hj => fr87 j (by omega))
            have frm : ∀ j : Nat, j < 48 → j ≠ 0 → j ≠ 7 → j ≠ 8 → j ≠ 10 → j ≠ 11 → w83 j = w j := fun j hj k0 k1 k2 k3 k4 => (fr87 j k4).trans (frm j hj k0 k1 k2 k3 k4)
            refine lv_goto (tgt := 110) hx hb dX4_update_106 (by decide) ?_
            have hkk9 := mt_kp_r hkp (by omega)
            refine klx_cVv (C := RX4) (i := 0) (As := [.int r85]) (rest := []) ⟨hx, hb, hml, hown, hts⟩ (c_X4_settle l hst G B _ r85 k0 k2 k3 k4 k6 k7 k8 k9 f69 f86 ⟨by omega, by omega, by omega, by omega, by omega, by omega⟩ hru hkk9) (cwV 1 hts gX4_update_X4_settle rfl rfl rfl (by decide +kernel) ⟨Nat.le_of_ble_eq_true rfl, Nat.le_of_ble_eq_true rfl⟩) hK hZ hP k0 rfl rfl hl.1 rfl (Nat.le_of_ble_eq_true rfl) dX4_update_110 ⟨Nat.le_of_ble_eq_true rfl, Nat.le_of_ble_eq_true rfl⟩ (fun E ce q9 w9 H locs hpx hP h9 hv9 hc9 => kl_out hout hlocks hP (by obtain ⟨hE, r9, hr0, hst9, h09, hru9, hfr9⟩ := hpx; exact Or.inr (Or.inr ⟨hE, hok, p55, 0, _, _, hp55, by omega, rfl, hv54.1, hv54.2, (Or.inr ⟨rfl, c95, hwr, hkp⟩), r9, hr0, hst9, h09, hru9, (hfr9 7 (by decide) (by decide)).trans k7, (hfr9 8 (by decide) (by decide)).trans k8, ⟨_, _, (hfr9 10 (by decide) (by decide)).trans f69, (hfr9 11 (by decide) (by decide)).trans f86⟩, fun j hj k0 k1 k2 k3 k4 => (hfr9 j hj k0).trans (frm j hj k0 k1 k2 k3 k4)⟩)) h9 hv9 hc9 (Nat.le_of_ble_eq_true rfl) (Nat.le_of_ble_eq_true rfl)) (fun w88 H locs q89 hP => ?_)
            obtain ⟨hst9, hru, f91, f92, fr93⟩ := q89
            have k0 : w88 0 = some (.inr (4, [.ref (B + 1), .int (nI nT), .ref (B + 2), .int (nI nL), .ref (B + 3), .int (nI nS), .ref (B + 4), .int (nI nC), .ref (B + 5), .int (nI nW), .ref (B + 6), .ref (B + 9), .ref (B + 12), .int (nI nM), .ref (B + 13), .int rs])) := (fr93 _ (by decide) (by decide) (by decide)).trans k0
            have k1 : w88 1 = some (kl_aI G 4 ((fun t => nI (cn t)))) := (fr93 _ (by decide) (by decide) (by decide)).trans k1
            have k2 : w88 2 = some (kl_aR G 3 6 lf) := (fr93 _ (by decide) (by decide) (by decide)).trans k2
            have k3 : w88 3 = some (kl_aR G 4 4 sf) := (fr93 _ (by decide) (by decide) (by decide)).trans k3
            have k4 : w88 4 = some (kl_aR G 5 4 cf) := (fr93 _ (by decide) (by decide) (by decide)).trans k4
            have k6 : w88 6 = some (.inr (2, [.ref (B + 7), .ref (B + 8)])) := (fr93 _ (by decide) (by decide) (by decide)).trans k6
            have k9 : w88 9 = some (.inr (2, [.ref (B + 10), .ref (B + 11)])) := (fr93 _ (by decide) (by decide) (by decide)).trans k9
            have f69 : w88 10 = some (kl_aI G 24 T) := (fr93 _ (by decide) (by decide) (by decide)).trans f69
            have f86 : w88 11 = some (kl_aI G 96 d2) := (fr93 _ (by decide) (by decide) (by decide)).trans f86
            have frm : ∀ j : Nat, j < 48 → j ≠ 0 → j ≠ 7 → j ≠ 8 → j ≠ 10 → j ≠ 11 → w88 j = w j := fun j hj k0 k1 k2 k3 k4 => (fr93 j hj k1 k2).trans (frm j hj k0 k1 k2 k3 k4)
            refine lv_iload hx hb dX4_update_113 (lv_at hl 0 rfl) ?_
            refine W.widen (k := 3) (n := 18) (by omega) (by omega) ?_
            refine vx_ret ?_
            exact kl_iret hx hb hr hlocks hP ⟨hok, p55, 0, _, _, hp55, by omega, rfl, hv54.1, hv54.2, rfl, (Or.inr ⟨rfl, c95, hwr, hkp⟩), hst9, k0, hru, f91, f92, ⟨_, _, f69, f86⟩, frm⟩ dX4_update_115

abbrev rm_X4_shift : Room := { frames := 8, cells := 2, slots := 12, locals := 135 }
set_option maxHeartbeats 4000000 in
set_option maxRecDepth 100000 in
theorem c_X4_shift (l : Launch) (hst : l.stackTraces = false) (G : kl_G) (B : Nat) (w : kl_M) {nT nW nM : Nat} {rs : Int32} {nL nS nC : Nat} {lf sf cf : Nat → Option Nat} {la : Nat → Nat} {lch : Nat → Int32} {lco : Nat → Nat} {lpa lwy : Nat → Int32} {sa : Nat → Nat} {stb : Nat → Int32} {sco ca cwa cpa : Nat → Nat} {ctb : Nat → Int32} {cln : Nat → Nat} {cwd : Nat → Nat → Nat} {ccol : Nat → Nat} {cn : Nat → Nat} {T C dT dC : Nat → Int32} (t c b9 : Int32) (k0 : w 0 = some (.inr (4, [.ref (B + 1), .int (nI nT), .ref (B + 2), .int (nI nL), .ref (B + 3), .int (nI nS), .ref (B + 4), .int (nI nC), .ref (B + 5), .int (nI nW), .ref (B + 6), .ref (B + 9), .ref (B + 12), .int (nI nM), .ref (B + 13), .int rs]))) (k1 : w 1 = some (kl_aI G 4 ((fun t => nI (cn t))))) (k2 : w 2 = some (kl_aR G 3 6 lf)) (k3 : w 3 = some (kl_aR G 4 4 sf)) (k4 : w 4 = some (kl_aR G 5 4 cf)) (k6 : w 6 = some (.inr (2, [.ref (B + 7), .ref (B + 8)]))) (k7 : w 7 = some (kl_aI G 24 T)) (k8 : w 8 = some (kl_aI G 96 C)) (k9 : w 9 = some (.inr (2, [.ref (B + 10), .ref (B + 11)]))) (k10 : w 10 = some (kl_aI G 24 dT)) (k11 : w 11 = some (kl_aI G 96 dC)) (hnn : nT ≤ 4 ∧ nL ≤ 6 ∧ nS ≤ 4 ∧ nC ≤ 4 ∧ nW ≤ 10 ∧ nM ≤ 4) (hru : kl_RU G B w nL lf la lch lco lpa lwy nS sf sa stb sco nC cf ca cwa cpa ctb cln cwd ccol) (hcn4 : ∀ j, j < nT → cn j ≤ 4) : vx_Met l yX4_shift wsX4_shift rm_X4_shift (kl_Px G B w [.ref (B + 0), .int t, .int c, .int b9]) (kl_Qi G B (fun r w1 => (mt_col t c nT cn ∧ c ≠ 0) ∧ r = nI (mt_ct (fun q => T q = t) 24) ∧ ∃ q, 0 < q ∧ q < 4 ∧ c = nI q ∧ mt_st (-1) (mt_why T (mt_shf T C t q b9) nT nS stb sco nL lch lco lpa nC ctb cwd cln) (nI 0) ∧ w1 0 = some (.inr (4, [.ref (B + 1), .int (nI nT), .ref (B + 2), .int (nI nL), .ref (B + 3), .int (nI nS), .ref (B + 4), .int (nI nC), .ref (B + 5), .int (nI nW), .ref (B + 6), .ref (B + 9), .ref (B + 12), .int (nI nM), .ref (B + 13), .int rs])) ∧ kl_RU G B w1 nL lf la lch lco lpa lwy nS sf sa stb sco nC cf ca cwa cpa ctb cln cwd ccol ∧ w1 7 = some (kl_aI G 24 T) ∧ w1 8 = some (kl_aI G 96 (mt_shf T C t q b9)) ∧ kl_dr G w1 ∧ ∀ j : Nat, j < 48 → j ≠ 0 → j ≠ 7 → j ≠ 8 → j ≠ 10 → j ≠ 11 → w1 j = w j)) (kl_X G B (fun E w1 => (E = "java/lang/IllegalArgumentException" ∧ w1 = w ∧ ¬ (mt_col t c nT cn ∧ c ≠ 0)) ∨ (E = "java/lang/IllegalStateException" ∧ (mt_col t c nT cn ∧ c ≠ 0) ∧ ∃ q, 0 < q ∧ q < 4 ∧ c = nI q ∧ ∃ r, r ≠ 0 ∧ mt_st (-1) (mt_why T (mt_shf T C t q b9) nT nS stb sco nL lch lco lpa nC ctb cwd cln) r ∧ w1 0 = some (.inr (4, [.ref (B + 1), .int (nI nT), .ref (B + 2), .int (nI nL), .ref (B + 3), .int (nI nS), .ref (B + 4), .int (nI nC), .ref (B + 5), .int (nI nW), .ref (B + 6), .ref (B + 9), .ref (B + 12), .int (nI nM), .ref (B + 13), .int r])) ∧ kl_RU G B w1 nL lf la lch lco lpa lwy nS sf sa stb sco nC cf ca cwa cpa ctb cln cwd ccol ∧ w1 7 = some (kl_aI G 24 T) ∧ w1 8 = some (kl_aI G 96 C) ∧ kl_dr G w1 ∧ ∀ j : Nat, j < 48 → j ≠ 0 → j ≠ 7 → j ≠ 8 → j ≠ 10 → j ≠ 11 → w1 j = w j))) 2 12 (kl_fr B) := by
  refine vx_ofW (cc := cX4_shift) (maxL := 5) (ret := (some .int)) (by decide) rfl ?_
  intro pg e s m args below meth cd s₁ Bd hml hout hv
  obtain ⟨rfl, hP0, hK, hZ⟩ := hv
  have hx := Bd.exec
  have hb := Bd.bytes
  have hr := Bd.returns
  have hts := atoms_spec (ws := wsX4_shift) Bd.pre
  have hown : s.vm.findClass RX4 = some m.cls := findClass_of_methodNamed Bd.named
  have hlocks := Bd.notSynchronized
  have hinX4 : ∀ w ∈ u_ws RX4 TX4 16, w ∈ wsX4_shift := by decide +kernel
  have hP := kl_S.rf hP0
  have hl := lv_entry ([.ref (B + 0), .int t, .int c, .int b9]) (n := 5) (Nat.le_of_ble_eq_true rfl)
  rw [lg_entry_eq]
  generalize (lg_sl ([.ref (B + 0), .int t, .int c, .int b9]) ++ List.replicate (5 - (lg_sl ([.ref (B + 0), .int t, .int c, .int b9])).length) Slot.unset).toArray = ls at hl ⊢
  have hl : lv_has ls 5 [(0, .ref (B + 0)), (1, .int t), (2, .int c), (3, .int b9)] := hl
  have frm : ∀ j : Nat, j < 48 → j ≠ 0 → j ≠ 7 → j ≠ 8 → j ≠ 10 → j ≠ 11 → w j = w j := fun j _ _ _ _ _ _ => rfl
  obtain ⟨m1, m2, m3, m4, m5, m6⟩ := hnn
  refine lv_aload_n hx hb dX4_shift_0 rfl (lv_at hl 0 rfl) ?_
  refine lv_iload_n hx hb dX4_shift_1 rfl (lv_at hl 1 rfl) ?_
  refine lv_iload_n hx hb dX4_shift_2 rfl (lv_at hl 2 rfl) ?_
  refine kl_cVi (C := RX4) (i := 0) (As := [.int t, .int c]) (rest := []) ⟨hx, hb, hml, hown, hts⟩ (c_X4_isCellColumn l G B _ t c k0 k1 (by omega) hcn4) (cwV 2 hts gX4_shift_X4_isCellColumn rfl rfl rfl (by decide +kernel) ⟨Nat.le_of_ble_eq_true rfl, Nat.le_of_ble_eq_true rfl⟩) hK hP k0 rfl rfl hl.1 rfl (Nat.le_of_ble_eq_true rfl) dX4_shift_3 ⟨Nat.le_of_ble_eq_true rfl, Nat.le_of_ble_eq_true rfl⟩ (fun r3 w1 H locs q2 hP => ?_)
  obtain ⟨rfl, hv4⟩ := q2
  refine klx_cSv (As := [.int r3]) (rest := []) ⟨hx, hb, hml, hown, hts⟩ (c_X4_needArgument l hst G B _ r3 hv4) (va_cwS 1 hts gX4_shift_X4_needArgument rfl rfl rfl (by decide +kernel) ⟨Nat.le_of_ble_eq_true rfl, Nat.le_of_ble_eq_true rfl⟩) hK hZ hP rfl hl.1 rfl (Nat.le_of_ble_eq_true rfl) dX4_shift_6 ⟨Nat.le_of_ble_eq_true rfl, Nat.le_of_ble_eq_true rfl⟩ (fun E ce q9 w9 H locs hpx hP h9 hv9 hc9 => kl_out hout hlocks hP (Or.inl ⟨hpx.1, hpx.2.1.symm, hpx.2.2⟩) h9 hv9 hc9 (Nat.le_of_ble_eq_true rfl) (Nat.le_of_ble_eq_true rfl)) (fun w5 H locs q6 hP => ?_)
  obtain ⟨rfl, ok8⟩ := q6
  have hok := ok8
  obtain ⟨⟨jj, q, hjj, -, hq4, hcq⟩, hcz⟩ := ok8
  have hq5 := hcn4 jj hjj
  have hq0 : 0 < q := Nat.pos_of_ne_zero (fun z => hcz (by rw [hcq, z]; rfl))
  rw [hcq] at hl
  refine lv_aload_n hx hb dX4_shift_9 rfl (lv_at hl 0 rfl) ?_
  refine kl_get (C := RX4) (T := TX4) (N := 16) (ci := 4) hx hb hts hinX4 hown hK hP k0 rfl 11 (by decide) (hts (.fieldLink RX4 57 "KinLedger" "draft" "LKinLedger$Rows;") (by decide +kernel)) (fun _ h9 => h9) rfl dX4_shift_10 ?_
  refine lv_aload_n hx hb dX4_shift_13 rfl (lv_at hl 0 rfl) ?_
  refine kl_get (C := RX4) (T := TX4) (N := 16) (ci := 4) hx hb hts hinX4 hown hK hP k0 rfl 10 (by decide) (hts (.fieldLink RX4 53 "KinLedger" "rows" "LKinLedger$Rows;") (by decide +kernel)) (fun _ h9 => h9) rfl dX4_shift_14 ?_
  refine kl_cVv (C := RX2) (i := 9) (As := [.ref (B + 6)]) (rest := []) ⟨hx, hb, hml, hown, hts⟩ (c_X2_become l G B _ 9 10 11 6 7 8 k9 k10 k11 k6 k7 k8 (by omega)) (cwV 1 hts gX4_shift_X2_become rfl rfl rfl (by decide +kernel) ⟨Nat.le_of_ble_eq_true rfl, Nat.le_of_ble_eq_true rfl⟩) hK hP k9 rfl rfl hl.1 rfl (Nat.le_of_ble_eq_true rfl) dX4_shift_17 ⟨Nat.le_of_ble_eq_true rfl, Nat.le_of_ble_eq_true rfl⟩ (fun w9 H locs q10 hP => ?_)
  obtain ⟨f12, f13, fr14⟩ := q10
  have k0 : w9 0 = some (.inr (4, [.ref (B + 1), .int (nI nT), .ref (B + 2), .int (nI nL), .ref (B + 3), .int (nI nS), .ref (B + 4), .int (nI nC), .ref (B + 5), .int (nI nW), .ref (B + 6), .ref (B + 9), .ref (B + 12), .int (nI nM), .ref (B + 13), .int rs])) := (fr14 _ (by decide) (by decide)).trans k0
  have k1 : w9 1 = some (kl_aI G 4 ((fun t => nI (cn t)))) := (fr14 _ (by decide) (by decide)).trans k1
  have k2 : w9 2 = some (kl_aR G 3 6 lf) := (fr14 _ (by decide) (by decide)).trans k2
  have k3 : w9 3 = some (kl_aR G 4 4 sf) := (fr14 _ (by decide) (by decide)).trans k3
  have k4 : w9 4 = some (kl_aR G 5 4 cf) := (fr14 _ (by decide) (by decide)).trans k4
  have k6 : w9 6 = some (.inr (2, [.ref (B + 7), .ref (B + 8)])) := (fr14 _ (by decide) (by decide)).trans k6
  have k7 : w9 7 = some (kl_aI G 24 T) := (fr14 _ (by decide) (by decide)).trans k7
  have k8 : w9 8 = some (kl_aI G 96 C) := (fr14 _ (by decide) (by decide)).trans k8
  have k9 : w9 9 = some (.inr (2, [.ref (B + 10), .ref (B + 11)])) := (fr14 _ (by decide) (by decide)).trans k9
  have hru := kl_RU.mv hru (fun j hj => fr14 j (by omega) (by omega))
  have frm : ∀ j : Nat, j < 48 → j ≠ 0 → j ≠ 7 → j ≠ 8 → j ≠ 10 → j ≠ 11 → w9 j = w j := fun j hj k0 k1 k2 k3 k4 => (fr14 j k3 k4).trans (frm j hj k0 k1 k2 k3 k4)
  refine lv_iconst (v := nI 0) hx hb dX4_shift_20 (by decide) ?_
  refine lv_istore (lv' := [(4, .int (nI 0)), (0, .ref (B + 0)), (1, .int t), (2, .int (nI q)), (3, .int b9)]) hx hb dX4_shift_21 hl (by decide) rfl (fun ls hl => ?_)
  have lp23 : ∀ (n23 : Nat) (p : Nat) (g : Nat → Int32), 24 - p < n23 → (p ≤ 24) → (mt_shd T C t q b9 p g) → ∀ (w1 : kl_M) (H : Heap) (locs : List Loc), w1 0 = some (.inr (4, [.ref (B + 1), .int (nI nT), .ref (B + 2), .int (nI nL), .ref (B + 3), .int (nI nS), .ref (B + 4), .int (nI nC), .ref (B + 5), .int (nI nW), .ref (B + 6), .ref (B + 9), .ref (B + 12), .int (nI nM), .ref (B + 13), .int rs])) → w1 1 = some (kl_aI G 4 ((fun t => nI (cn t)))) → w1 2 = some (kl_aR G 3 6 lf) → w1 3 = some (kl_aR G 4 4 sf) → w1 4 = some (kl_aR G 5 4 cf) → w1 6 = some (.inr (2, [.ref (B + 7), .ref (B + 8)])) → w1 7 = some (kl_aI G 24 T) → w1 8 = some (kl_aI G 96 C) → w1 9 = some (.inr (2, [.ref (B + 10), .ref (B + 11)])) → w1 10 = some (kl_aI G 24 T) → w1 11 = some (kl_aI G 96 g) → (kl_RU G B w1 nL lf la lch lco lpa lwy nS sf sa stb sco nC cf ca cwa cpa ctb cln cwd ccol) → (∀ j : Nat, j < 48 → j ≠ 0 → j ≠ 7 → j ≠ 8 → j ≠ 10 → j ≠ 11 → w1 j = w j) → kl_S G B w1 s.heap H locs → ∀ ls : Array Slot, lv_has ls 5 [(0, .ref (B + 0)), (1, .int t), (2, .int (nI q)), (3, .int b9), (4, .int (nI p))] → W pg l e rm_X4_shift s m ([.ref (B + 0), .int t, .int c, .int b9] : List Value).toArray below meth cd H locs (0 + 0 + 1 + 0) (0 + 0 + 6 + 0) (vx_MQ below (kl_Qi G B (fun r w1 => (mt_col t c nT cn ∧ c ≠ 0) ∧ r = nI (mt_ct (fun q => T q = t) 24) ∧ ∃ q, 0 < q ∧ q < 4 ∧ c = nI q ∧ mt_st (-1) (mt_why T (mt_shf T C t q b9) nT nS stb sco nL lch lco lpa nC ctb cwd cln) (nI 0) ∧ w1 0 = some (.inr (4, [.ref (B + 1), .int (nI nT), .ref (B + 2), .int (nI nL), .ref (B + 3), .int (nI nS), .ref (B + 4), .int (nI nC), .ref (B + 5), .int (nI nW), .ref (B + 6), .ref (B + 9), .ref (B + 12), .int (nI nM), .ref (B + 13), .int rs])) ∧ kl_RU G B w1 nL lf la lch lco lpa lwy nS sf sa stb sco nC cf ca cwa cpa ctb cln cwd ccol ∧ w1 7 = some (kl_aI G 24 T) ∧ w1 8 = some (kl_aI G 96 (mt_shf T C t q b9)) ∧ kl_dr G w1 ∧ ∀ j : Nat, j < 48 → j ≠ 0 → j ≠ 7 → j ≠ 8 → j ≠ 10 → j ≠ 11 → w1 j = w j)) (kl_X G B (fun E w1 => (E = "java/lang/IllegalArgumentException" ∧ w1 = w ∧ ¬ (mt_col t c nT cn ∧ c ≠ 0)) ∨ (E = "java/lang/IllegalStateException" ∧ (mt_col t c nT cn ∧ c ≠ 0) ∧ ∃ q, 0 < q ∧ q < 4 ∧ c = nI q ∧ ∃ r, r ≠ 0 ∧ mt_st (-1) (mt_why T (mt_shf T C t q b9) nT nS stb sco nL lch lco lpa nC ctb cwd cln) r ∧ w1 0 = some (.inr (4, [.ref (B + 1), .int (nI nT), .ref (B + 2), .int (nI nL), .ref (B + 3), .int (nI nS), .ref (B + 4), .int (nI nC), .ref (B + 5), .int (nI nW), .ref (B + 6), .ref (B + 9), .ref (B + 12), .int (nI nM), .ref (B + 13), .int r])) ∧ kl_RU G B w1 nL lf la lch lco lpa lwy nS sf sa stb sco nC cf ca cwa cpa ctb cln cwd ccol ∧ w1 7 = some (kl_aI G 24 T) ∧ w1 8 = some (kl_aI G 96 C) ∧ kl_dr G w1 ∧ ∀ j : Nat, j < 48 → j ≠ 0 → j ≠ 7 → j ≠ 8 → j ≠ 10 → j ≠ 11 → w1 j = w j))) ([.ref (B + 0), .int t, .int c, .int b9] : List Value).toArray s 2 12 (kl_fr B)) (F0 m 23 ls []) := by
    intro n23
    induction n23 with
    | zero => intro p g hm; exact absurd hm (Nat.not_lt_zero _)
    | succ n23 ih23 =>
      intro p g hm hp hsh w1 H locs k0 k1 k2 k3 k4 k6 k7 k8 k9 f12 f13 hru frm hP ls hl
      refine lv_iload hx hb dX4_shift_23 (lv_at hl 4 rfl) ?_
      refine lv_bipush (v := nI 24) hx hb dX4_shift_25 (by decide) ?_
      refine kl_ge (tgt := 71) hx hb (by omega) (by omega) dX4_shift_27 (by decide) (fun c27 => ?_) (fun c27 => ?_)
      · obtain ⟨w17, f15, fr16, hP⟩ := kl_arr (g := mt_shf T C t q b9) hP f13 (fun i hi => hsh.at i (by omega))
        have k0 : w17 0 = some (.inr (4, [.ref (B + 1), .int (nI nT), .ref (B + 2), .int (nI nL), .ref (B + 3), .int (nI nS), .ref (B + 4), .int (nI nC), .ref (B + 5), .int (nI nW), .ref (B + 6), .ref (B + 9), .ref (B + 12), .int (nI nM), .ref (B + 13), .int rs])) := (fr16 _ (by decide)).trans k0
        have k1 : w17 1 = some (kl_aI G 4 ((fun t => nI (cn t)))) := (fr16 _ (by decide)).trans k1
        have k2 : w17 2 = some (kl_aR G 3 6 lf) := (fr16 _ (by decide)).trans k2
        have k3 : w17 3 = some (kl_aR G 4 4 sf) := (fr16 _ (by decide)).trans k3
        have k4 : w17 4 = some (kl_aR G 5 4 cf) := (fr16 _ (by decide)).trans k4
        have k6 : w17 6 = some (.inr (2, [.ref (B + 7), .ref (B + 8)])) := (fr16 _ (by decide)).trans k6
        have k7 : w17 7 = some (kl_aI G 24 T) := (fr16 _ (by decide)).trans k7
        have k8 : w17 8 = some (kl_aI G 96 C) := (fr16 _ (by decide)).trans k8
        have k9 : w17 9 = some (.inr (2, [.ref (B + 10), .ref (B + 11)])) := (fr16 _ (by decide)).trans k9
        have f12 : w17 10 = some (kl_aI G 24 T) := (fr16 _ (by decide)).trans f12
        have hru := kl_RU.mv hru (fun j hj => fr16 j (by omega))
        have frm : ∀ j : Nat, j < 48 → j ≠ 0 → j ≠ 7 → j ≠ 8 → j ≠ 10 → j ≠ 11 → w17 j = w j := fun j hj k0 k1 k2 k3 k4 => (fr16 j k4).trans (frm j hj k0 k1 k2 k3 k4)
        refine lv_aload_n hx hb dX4_shift_71 rfl (lv_at hl 0 rfl) ?_
        refine lv_iconst (v := (-1)) hx hb dX4_shift_72 (by decide) ?_
        refine klx_cVv (C := RX4) (i := 0) (As := [.int ((-1))]) (rest := []) ⟨hx, hb, hml, hown, hts⟩ (c_X4_settle l hst G B _ ((-1)) k0 k2 k3 k4 k6 k7 k8 k9 f12 f15 ⟨by omega, by omega, by omega, by omega, by omega, by omega⟩ hru (Or.inl rfl)) (cwV 1 hts gX4_shift_X4_settle rfl rfl rfl (by decide +kernel) ⟨Nat.le_of_ble_eq_true rfl, Nat.le_of_ble_eq_true rfl⟩) hK hZ hP k0 rfl rfl hl.1 rfl (Nat.le_of_ble_eq_true rfl) dX4_shift_73 ⟨Nat.le_of_ble_eq_true rfl, Nat.le_of_ble_eq_true rfl⟩ (fun E ce q9 w9 H locs hpx hP h9 hv9 hc9 => kl_out hout hlocks hP (by obtain ⟨hE, r9, hr0, hst9, h09, hru9, hfr9⟩ := hpx; exact Or.inr ⟨hE, hok, q, hq0, by omega, hcq, r9, hr0, hst9, h09, hru9, (hfr9 7 (by decide) (by decide)).trans k7, (hfr9 8 (by decide) (by decide)).trans k8, ⟨_, _, (hfr9 10 (by decide) (by decide)).trans f12, (hfr9 11 (by decide) (by decide)).trans f15⟩, fun j hj k0 k1 k2 k3 k4 => (hfr9 j hj k0).trans (frm j hj k0 k1 k2 k3 k4)⟩) h9 hv9 hc9 (Nat.le_of_ble_eq_true rfl) (Nat.le_of_ble_eq_true rfl)) (fun w18 H locs q19 hP => ?_)
        obtain ⟨hst9, hru, f21, f22, fr23⟩ := q19
        have k0 : w18 0 = some (.inr (4, [.ref (B + 1), .int (nI nT), .ref (B + 2), .int (nI nL), .ref (B + 3), .int (nI nS), .ref (B + 4), .int (nI nC), .ref (B + 5), .int (nI nW), .ref (B + 6), .ref (B + 9), .ref (B + 12), .int (nI nM), .ref (B + 13), .int rs])) := (fr23 _ (by decide) (by decide) (by decide)).trans k0
        have k1 : w18 1 = some (kl_aI G 4 ((fun t => nI (cn t)))) := (fr23 _ (by decide) (by decide) (by decide)).trans k1
        have k2 : w18 2 = some (kl_aR G 3 6 lf) := (fr23 _ (by decide) (by decide) (by decide)).trans k2
        have k3 : w18 3 = some (kl_aR G 4 4 sf) := (fr23 _ (by decide) (by decide) (by decide)).trans k3
        have k4 : w18 4 = some (kl_aR G 5 4 cf) := (fr23 _ (by decide) (by decide) (by decide)).trans k4
        have k6 : w18 6 = some (.inr (2, [.ref (B + 7), .ref (B + 8)])) := (fr23 _ (by decide) (by decide) (by decide)).trans k6
        have k9 : w18 9 = some (.inr (2, [.ref (B + 10), .ref (B + 11)])) := (fr23 _ (by decide) (by decide) (by decide)).trans k9
        have f12 : w18 10 = some (kl_aI G 24 T) := (fr23 _ (by decide) (by decide) (by decide)).trans f12
        have f15 : w18 11 = some (kl_aI G 96 ((mt_shf T C t q b9))) := (fr23 _ (by decide) (by decide) (by decide)).trans f15
        have frm : ∀ j : Nat, j < 48 → j ≠ 0 → j ≠ 7 → j ≠ 8 → j ≠ 10 → j ≠ 11 → w18 j = w j := fun j hj k0 k1 k2 k3 k4 => (fr23 j hj k1 k2).trans (frm j hj k0 k1 k2 k3 k4)
        refine lv_aload_n hx hb dX4_shift_76 rfl (lv_at hl 0 rfl) ?_
        refine kl_get (C := RX4) (T := TX4) (N := 16) (ci := 4) hx hb hts hinX4 hown hK hP k0 rfl 10 (by decide) (hts (.fieldLink RX4 53 "KinLedger" "rows" "LKinLedger$Rows;") (by decide +kernel)) (fun _ h9 => h9) rfl dX4_shift_77 ?_
        refine lv_iload_n hx hb dX4_shift_80 rfl (lv_at hl 1 rfl) ?_
        refine kl_cVi (C := RX2) (i := 6) (As := [.int t]) (rest := []) ⟨hx, hb, hml, hown, hts⟩ (c_X2_size l G B _ 6 7 8 t k6 f21 f22 ) (cwV 1 hts gX4_shift_X2_size rfl rfl rfl (by decide +kernel) ⟨Nat.le_of_ble_eq_true rfl, Nat.le_of_ble_eq_true rfl⟩) hK hP k6 rfl rfl hl.1 rfl (Nat.le_of_ble_eq_true rfl) dX4_shift_81 ⟨Nat.le_of_ble_eq_true rfl, Nat.le_of_ble_eq_true rfl⟩ (fun r26 w24 H locs q25 hP => ?_)
        obtain ⟨rfl, rfl⟩ := q25
        refine W.widen (k := 2) (n := 12) (by omega) (by omega) ?_
        refine vx_ret ?_
        exact kl_iret hx hb hr hlocks hP ⟨hok, rfl, q, hq0, by omega, hcq, hst9, k0, hru, f21, f22, ⟨_, _, f12, f15⟩, frm⟩ dX4_shift_84
      · refine lv_aload_n hx hb dX4_shift_30 rfl (lv_at hl 0 rfl) ?_
        refine kl_get (C := RX4) (T := TX4) (N := 16) (ci := 4) hx hb hts hinX4 hown hK hP k0 rfl 11 (by decide) (hts (.fieldLink RX4 57 "KinLedger" "draft" "LKinLedger$Rows;") (by decide +kernel)) (fun _ h9 => h9) rfl dX4_shift_31 ?_
        refine lv_iload hx hb dX4_shift_34 (lv_at hl 4 rfl) ?_
        refine lv_iload_n hx hb dX4_shift_36 rfl (lv_at hl 1 rfl) ?_
        refine kl_cVi (C := RX2) (i := 9) (As := [.int (nI p), .int t]) (rest := []) ⟨hx, hb, hml, hown, hts⟩ (c_X2_holds l G B _ 9 10 11 p t k9 f12 f13 (by omega)) (cwV 2 hts gX4_shift_X2_holds rfl rfl rfl (by decide +kernel) ⟨Nat.le_of_ble_eq_true rfl, Nat.le_of_ble_eq_true rfl⟩) hK hP k9 rfl rfl hl.1 rfl (Nat.le_of_ble_eq_true rfl) dX4_shift_37 ⟨Nat.le_of_ble_eq_true rfl, Nat.le_of_ble_eq_true rfl⟩ (fun r29 w27 H locs q28 hP => ?_)
        obtain ⟨rfl, hv30⟩ := q28
        refine kl_ifeq (tgt := 65) hx hb hv30 dX4_shift_40 (by decide) (fun c40 => ?_) (fun c40 => ?_)
        · refine lv_iinc (v := nI (p + 1)) (lv' := [(4, .int (nI (p + 1))), (0, .ref (B + 0)), (1, .int t), (2, .int (nI q)), (3, .int b9)]) hx hb dX4_shift_65 hl (k := 4) rfl (nI_1 _) (by decide) rfl (fun ls hl => ?_)
          refine lv_goto (tgt := 23) hx hb dX4_shift_68 (by decide) ?_
          exact ih23 (p + 1) g (by omega) (by first | omega | grind) (hsh.no c40) _ _ _ k0 k1 k2 k3 k4 k6 k7 k8 k9 f12 f13 hru frm hP ls (lv_sub hl [1, 2, 3, 4, 0] rfl)
        · refine lv_aload_n hx hb dX4_shift_43 rfl (lv_at hl 0 rfl) ?_
          refine kl_get (C := RX4) (T := TX4) (N := 16) (ci := 4) hx hb hts hinX4 hown hK hP k0 rfl 11 (by decide) (hts (.fieldLink RX4 57 "KinLedger" "draft" "LKinLedger$Rows;") (by decide +kernel)) (fun _ h9 => h9) rfl dX4_shift_44 ?_
          refine lv_iload hx hb dX4_shift_47 (lv_at hl 4 rfl) ?_
          refine lv_iload_n hx hb dX4_shift_49 rfl (lv_at hl 2 rfl) ?_
          refine lv_aload_n hx hb dX4_shift_50 rfl (lv_at hl 0 rfl) ?_
          refine kl_get (C := RX4) (T := TX4) (N := 16) (ci := 4) hx hb hts hinX4 hown hK hP k0 rfl 11 (by decide) (hts (.fieldLink RX4 57 "KinLedger" "draft" "LKinLedger$Rows;") (by decide +kernel)) (fun _ h9 => h9) rfl dX4_shift_51 ?_
          refine lv_iload hx hb dX4_shift_54 (lv_at hl 4 rfl) ?_
          refine lv_iload_n hx hb dX4_shift_56 rfl (lv_at hl 2 rfl) ?_
          refine kl_cVi (C := RX2) (i := 9) (As := [.int (nI p), .int (nI q)]) (rest := [.int (nI q), .int (nI p), .ref (B + 9)]) ⟨hx, hb, hml, hown, hts⟩ (c_X2_at l G B _ 9 10 11 p q k9 f12 f13 (by omega) (by omega)) (cwV 2 hts gX4_shift_X2_at rfl rfl rfl (by decide +kernel) ⟨Nat.le_of_ble_eq_true rfl, Nat.le_of_ble_eq_true rfl⟩) hK hP k9 rfl rfl hl.1 rfl (Nat.le_of_ble_eq_true rfl) dX4_shift_57 ⟨Nat.le_of_ble_eq_true rfl, Nat.le_of_ble_eq_true rfl⟩ (fun r33 w31 H locs q32 hP => ?_)
          obtain ⟨rfl, rfl⟩ := q32
          refine kl_top (z := g (4 * p + q)) rfl ?_
          refine lv_iload_n hx hb dX4_shift_60 rfl (lv_at hl 3 rfl) ?_
          refine lv_iadd hx hb dX4_shift_61 ?_
          refine kl_cVv (C := RX2) (i := 9) (As := [.int (nI p), .int (nI q), .int (g (4 * p + q) + b9)]) (rest := []) ⟨hx, hb, hml, hown, hts⟩ (c_X2_put l G B _ 9 10 11 p q (g (4 * p + q) + b9) k9 f12 f13 (by omega) (by omega) (by omega) (by omega)) (cwV 3 hts gX4_shift_X2_put rfl rfl rfl (by decide +kernel) ⟨Nat.le_of_ble_eq_true rfl, Nat.le_of_ble_eq_true rfl⟩) hK hP k9 rfl rfl hl.1 rfl (Nat.le_of_ble_eq_true rfl) dX4_shift_62 ⟨Nat.le_of_ble_eq_true rfl, Nat.le_of_ble_eq_true rfl⟩ (fun w34 H locs q35 hP => ?_)
          obtain ⟨f37, fr38⟩ := q35
          have f37 : w34 11 = some (kl_aI G 96 (upd g (4 * p + q) (g (4 * p + q) + b9))) := f37
          have k0 : w34 0 = some (.inr (4, [.ref (B + 1), .int (nI nT), .ref (B + 2), .int (nI nL), .ref (B + 3), .int (nI nS), .ref (B + 4), .int (nI nC), .ref (B + 5), .int (nI nW), .ref (B + 6), .ref (B + 9), .ref (B + 12), .int (nI nM), .ref (B + 13), .int rs])) := (fr38 _ (by decide)).trans k0
          have k1 : w34 1 = some (kl_aI G 4 ((fun t => nI (cn t)))) := (fr38 _ (by decide)).trans k1
          have k2 : w34 2 = some (kl_aR G 3 6 lf) := (fr38 _ (by decide)).trans k2
          have k3 : w34 3 = some (kl_aR G 4 4 sf) := (fr38 _ (by decide)).trans k3
          have k4 : w34 4 = some (kl_aR G 5 4 cf) := (fr38 _ (by decide)).trans k4
          have k6 : w34 6 = some (.inr (2, [.ref (B + 7), .ref (B + 8)])) := (fr38 _ (by decide)).trans k6
          have k7 : w34 7 = some (kl_aI G 24 T) := (fr38 _ (by decide)).trans k7
          have k8 : w34 8 = some (kl_aI G 96 C) := (fr38 _ (by decide)).trans k8
          have k9 : w34 9 = some (.inr (2, [.ref (B + 10), .ref (B + 11)])) := (fr38 _ (by decide)).trans k9
          have f12 : w34 10 = some (kl_aI G 24 T) := (fr38 _ (by decide)).trans f12
          have hru := kl_RU.mv hru (fun j hj => fr38 j (by omega))
          have frm : ∀ j : Nat, j < 48 → j ≠ 0 → j ≠ 7 → j ≠ 8 → j ≠ 10 → j ≠ 11 → w34 j = w j := fun j hj k0 k1 k2 k3 k4 => (fr38 j k4).trans (frm j hj k0 k1 k2 k3 k4)
          refine lv_iinc (v := nI (p + 1)) (lv' := [(4, .int (nI (p + 1))), (0, .ref (B + 0)), (1, .int t), (2, .int (nI q)), (3, .int b9)]) hx hb dX4_shift_65 hl (k := 4) rfl (nI_1 _) (by decide) rfl (fun ls hl => ?_)
          refine lv_goto (tgt := 23) hx hb dX4_shift_68 (by decide) ?_
          exact ih23 (p + 1) (upd g (4 * p + q) (g (4 * p + q) + b9)) (by omega) (by first | omega | grind) (hsh.yes (by omega) c40) _ _ _ k0 k1 k2 k3 k4 k6 k7 k8 k9 f12 f37 hru frm hP ls (lv_sub hl [1, 2, 3, 4, 0] rfl)
  exact lp23 (24 + 1) 0 C (Nat.lt_succ_of_le (by omega)) (by first | omega | grind) mt_shd.rf _ _ _ k0 k1 k2 k3 k4 k6 k7 k8 k9 f12 f13 hru frm hP ls (lv_sub hl [1, 2, 3, 4, 0] rfl)

abbrev rm_X4_back : Room := { frames := 7, cells := 2, slots := 12, locals := 113 }
set_option maxHeartbeats 4000000 in
set_option maxRecDepth 100000 in
theorem c_X4_back (l : Launch) (hst : l.stackTraces = false) (G : kl_G) (B : Nat) (w : kl_M) {nT nW nM : Nat} {rs : Int32} {nL nS nC : Nat} {lf sf cf : Nat → Option Nat} {la : Nat → Nat} {lch : Nat → Int32} {lco : Nat → Nat} {lpa lwy : Nat → Int32} {sa : Nat → Nat} {stb : Nat → Int32} {sco ca cwa cpa : Nat → Nat} {ctb : Nat → Int32} {cln : Nat → Nat} {cwd : Nat → Nat → Nat} {ccol : Nat → Nat} {T C : Nat → Int32} {mT mC : Nat → Nat → Int32} (k0 : w 0 = some (.inr (4, [.ref (B + 1), .int (nI nT), .ref (B + 2), .int (nI nL), .ref (B + 3), .int (nI nS), .ref (B + 4), .int (nI nC), .ref (B + 5), .int (nI nW), .ref (B + 6), .ref (B + 9), .ref (B + 12), .int (nI nM), .ref (B + 13), .int rs]))) (k2 : w 2 = some (kl_aR G 3 6 lf)) (k3 : w 3 = some (kl_aR G 4 4 sf)) (k4 : w 4 = some (kl_aR G 5 4 cf)) (k6 : w 6 = some (.inr (2, [.ref (B + 7), .ref (B + 8)]))) (k7 : w 7 = some (kl_aI G 24 T)) (k8 : w 8 = some (kl_aI G 96 C)) (k12 : w 12 = some (kl_aR G 6 4 ((fun j => some (B + (14 + 3 * j)))))) (k14 : w 14 = some (.inr (2, [.ref (B + 15), .ref (B + 16)]))) (k15 : w 15 = some (kl_aI G 24 ((mT 0)))) (k16 : w 16 = some (kl_aI G 96 ((mC 0)))) (k17 : w 17 = some (.inr (2, [.ref (B + 18), .ref (B + 19)]))) (k18 : w 18 = some (kl_aI G 24 ((mT 1)))) (k19 : w 19 = some (kl_aI G 96 ((mC 1)))) (k20 : w 20 = some (.inr (2, [.ref (B + 21), .ref (B + 22)]))) (k21 : w 21 = some (kl_aI G 24 ((mT 2)))) (k22 : w 22 = some (kl_aI G 96 ((mC 2)))) (k23 : w 23 = some (.inr (2, [.ref (B + 24), .ref (B + 25)]))) (k24 : w 24 = some (kl_aI G 24 ((mT 3)))) (k25 : w 25 = some (kl_aI G 96 ((mC 3)))) (hnn : nT ≤ 4 ∧ nL ≤ 6 ∧ nS ≤ 4 ∧ nC ≤ 4 ∧ nW ≤ 10 ∧ nM ≤ 4) (hru : kl_RU G B w nL lf la lch lco lpa lwy nS sf sa stb sco nC cf ca cwa cpa ctb cln cwd ccol) : vx_Met l yX4_back wsX4_back rm_X4_back (kl_Px G B w [.ref (B + 0)]) (kl_Qi G B (fun r w1 => ∃ m, nM = m + 1 ∧ mt_why (mT m) (mC m) nT nS stb sco nL lch lco lpa nC ctb cwd cln (nI 0) ∧ r = nI m ∧ w1 0 = some (.inr (4, [.ref (B + 1), .int (nI nT), .ref (B + 2), .int (nI nL), .ref (B + 3), .int (nI nS), .ref (B + 4), .int (nI nC), .ref (B + 5), .int (nI nW), .ref (B + 6), .ref (B + 9), .ref (B + 12), .int (nI m), .ref (B + 13), .int rs])) ∧ kl_RU G B w1 nL lf la lch lco lpa lwy nS sf sa stb sco nC cf ca cwa cpa ctb cln cwd ccol ∧ w1 7 = some (kl_aI G 24 (mT m)) ∧ w1 8 = some (kl_aI G 96 (mC m)) ∧ ∀ j : Nat, j < 48 → j ≠ 0 → j ≠ 7 → j ≠ 8 → w1 j = w j)) (kl_X G B (fun E w1 => (E = "java/util/NoSuchElementException" ∧ w1 = w ∧ nM = 0) ∨ (E = "java/lang/IllegalStateException" ∧ ∃ m r, nM = m + 1 ∧ r ≠ 0 ∧ mt_why (mT m) (mC m) nT nS stb sco nL lch lco lpa nC ctb cwd cln r ∧ w1 0 = some (.inr (4, [.ref (B + 1), .int (nI nT), .ref (B + 2), .int (nI nL), .ref (B + 3), .int (nI nS), .ref (B + 4), .int (nI nC), .ref (B + 5), .int (nI nW), .ref (B + 6), .ref (B + 9), .ref (B + 12), .int (nI nM), .ref (B + 13), .int r])) ∧ kl_RU G B w1 nL lf la lch lco lpa lwy nS sf sa stb sco nC cf ca cwa cpa ctb cln cwd ccol ∧ w1 7 = some (kl_aI G 24 T) ∧ w1 8 = some (kl_aI G 96 C) ∧ ∀ j : Nat, j < 48 → j ≠ 0 → j ≠ 7 → j ≠ 8 → w1 j = w j))) 2 12 (kl_fr B) := by
  refine vx_ofW (cc := cX4_back) (maxL := 3) (ret := (some .int)) (by decide) rfl ?_
  intro pg e s m args below meth cd s₁ Bd hml hout hv
  obtain ⟨rfl, hP0, hK, hZ⟩ := hv
  have hx := Bd.exec
  have hb := Bd.bytes
  have hr := Bd.returns
  have hts := atoms_spec (ws := wsX4_back) Bd.pre
  have hown : s.vm.findClass RX4 = some m.cls := findClass_of_methodNamed Bd.named
  have hlocks := Bd.notSynchronized
  have hinX4 : ∀ w ∈ u_ws RX4 TX4 16, w ∈ wsX4_back := by decide +kernel
  have hP := kl_S.rf hP0
  have hl := lv_entry ([.ref (B + 0)]) (n := 3) (Nat.le_of_ble_eq_true rfl)
  rw [lg_entry_eq]
  generalize (lg_sl ([.ref (B + 0)]) ++ List.replicate (3 - (lg_sl ([.ref (B + 0)])).length) Slot.unset).toArray = ls at hl ⊢
  have hl : lv_has ls 3 [(0, .ref (B + 0))] := hl
  have frm : ∀ j : Nat, j < 48 → j ≠ 0 → j ≠ 7 → j ≠ 8 → w j = w j := fun j _ _ _ _ => rfl
  obtain ⟨m1, m2, m3, m4, m5, m6⟩ := hnn
  refine lv_aload_n hx hb dX4_back_0 rfl (lv_at hl 0 rfl) ?_
  refine kl_get (C := RX4) (T := TX4) (N := 16) (ci := 4) hx hb hts hinX4 hown hK hP k0 rfl 13 (by decide) (hts (.fieldLink RX4 64 "KinLedger" "rememberedCount" "I") (by decide +kernel)) (fun _ h9 => h9) rfl dX4_back_1 ?_
  refine kl_z_le (tgt := 11) hx hb (by omega) dX4_back_4 (by decide) (fun c4 => ?_) (fun c4 => ?_)
  · refine lv_iconst (v := nI 0) hx hb dX4_back_11 (by decide) ?_
    refine klx_cSv (As := [.int (nI 0)]) (rest := []) ⟨hx, hb, hml, hown, hts⟩ (c_X4_needElement l hst G B _ (nI 0) (kl_b.f (P := False) not_false)) (va_cwS 1 hts gX4_back_X4_needElement rfl rfl rfl (by decide +kernel) ⟨Nat.le_of_ble_eq_true rfl, Nat.le_of_ble_eq_true rfl⟩) hK hZ hP rfl hl.1 rfl (Nat.le_of_ble_eq_true rfl) dX4_back_12 ⟨Nat.le_of_ble_eq_true rfl, Nat.le_of_ble_eq_true rfl⟩ (fun E ce q9 w9 H locs hpx hP h9 hv9 hc9 => kl_out hout hlocks hP (Or.inl ⟨hpx.1, hpx.2.1.symm, by omega⟩) h9 hv9 hc9 (Nat.le_of_ble_eq_true rfl) (Nat.le_of_ble_eq_true rfl)) (fun w1 H locs q2 hP => ?_)
    exact (q2.2).elim
  · refine lv_iconst (v := nI 1) hx hb dX4_back_7 (by decide) ?_
    refine lv_goto (tgt := 12) hx hb dX4_back_8 (by decide) ?_
    refine klx_cSv (As := [.int (nI 1)]) (rest := []) ⟨hx, hb, hml, hown, hts⟩ (c_X4_needElement l hst G B _ (nI 1) (kl_b.t (P := True) trivial)) (va_cwS 1 hts gX4_back_X4_needElement rfl rfl rfl (by decide +kernel) ⟨Nat.le_of_ble_eq_true rfl, Nat.le_of_ble_eq_true rfl⟩) hK hZ hP rfl hl.1 rfl (Nat.le_of_ble_eq_true rfl) dX4_back_12 ⟨Nat.le_of_ble_eq_true rfl, Nat.le_of_ble_eq_true rfl⟩ (fun _ _ _ _ _ _ hpx _ _ _ _ => (hpx.2.2 trivial).elim) (fun w4 H locs q5 hP => ?_)
    obtain ⟨rfl, ok7⟩ := q5
    rcases (show nM = 1 ∨ nM = 2 ∨ nM = 3 ∨ nM = 4 by omega) with rfl | rfl | rfl | rfl
    · refine lv_aload_n hx hb dX4_back_15 rfl (lv_at hl 0 rfl) ?_
      refine kl_get (C := RX4) (T := TX4) (N := 16) (ci := 4) hx hb hts hinX4 hown hK hP k0 rfl 12 (by decide) (hts (.fieldLink RX4 60 "KinLedger" "remembered" "[LKinLedger$Rows;") (by decide +kernel)) (fun _ h9 => h9) rfl dX4_back_16 ?_
      refine lv_aload_n hx hb dX4_back_19 rfl (lv_at hl 0 rfl) ?_
      refine kl_get (C := RX4) (T := TX4) (N := 16) (ci := 4) hx hb hts hinX4 hown hK hP k0 rfl 13 (by decide) (hts (.fieldLink RX4 64 "KinLedger" "rememberedCount" "I") (by decide +kernel)) (fun _ h9 => h9) rfl dX4_back_20 ?_
      refine lv_iconst (v := nI 1) hx hb dX4_back_23 (by decide) ?_
      refine lv_isub hx hb dX4_back_24 ?_
      refine kl_top (z := nI 0) (by first | exact pk_sub (by omega) | (rw [pk_sub (by omega)]; congr 1; omega)) ?_
      refine kl_aald hx hb hK hP 6 (k0 := 6) k12 rfl (by omega) (by omega) (show _ = some (B + 14) from rfl) dX4_back_25 ?_
      refine lv_astore_n (lv' := [(1, .ref (B + 14)), (0, .ref (B + 0))]) hx hb dX4_back_26 rfl hl (by decide) rfl (fun ls hl => ?_)
      refine lv_aload_n hx hb dX4_back_27 rfl (lv_at hl 1 rfl) ?_
      refine lv_aload_n hx hb dX4_back_28 rfl (lv_at hl 0 rfl) ?_
      refine kl_cVi (C := RX4) (i := 0) (As := [.ref (B + 14)]) (rest := []) ⟨hx, hb, hml, hown, hts⟩ (c_X4_whyBroken l G B _ 14 15 16 k0 k2 k3 k4 k14 k15 k16 ⟨by omega, by omega, by omega, by omega, by omega, by omega⟩ hru ⟨by omega, by omega, by omega⟩) (cwV 1 hts gX4_back_X4_whyBroken rfl rfl rfl (by decide +kernel) ⟨Nat.le_of_ble_eq_true rfl, Nat.le_of_ble_eq_true rfl⟩) hK hP k0 rfl rfl hl.1 rfl (Nat.le_of_ble_eq_true rfl) dX4_back_29 ⟨Nat.le_of_ble_eq_true rfl, Nat.le_of_ble_eq_true rfl⟩ (fun r10 w8 H locs q9 hP => ?_)
      obtain ⟨hwhy, hru, fr11⟩ := q9
      have k0 : w8 0 = some (.inr (4, [.ref (B + 1), .int (nI nT), .ref (B + 2), .int (nI nL), .ref (B + 3), .int (nI nS), .ref (B + 4), .int (nI nC), .ref (B + 5), .int (nI nW), .ref (B + 6), .ref (B + 9), .ref (B + 12), .int (nI 1), .ref (B + 13), .int rs])) := (fr11 _ (by decide)).trans k0
      have k2 : w8 2 = some (kl_aR G 3 6 lf) := (fr11 _ (by decide)).trans k2
      have k3 : w8 3 = some (kl_aR G 4 4 sf) := (fr11 _ (by decide)).trans k3
      have k4 : w8 4 = some (kl_aR G 5 4 cf) := (fr11 _ (by decide)).trans k4
      have k6 : w8 6 = some (.inr (2, [.ref (B + 7), .ref (B + 8)])) := (fr11 _ (by decide)).trans k6
      have k7 : w8 7 = some (kl_aI G 24 T) := (fr11 _ (by decide)).trans k7
      have k8 : w8 8 = some (kl_aI G 96 C) := (fr11 _ (by decide)).trans k8
      have k12 : w8 12 = some (kl_aR G 6 4 ((fun j => some (B + (14 + 3 * j))))) := (fr11 _ (by decide)).trans k12
      have k14 : w8 14 = some (.inr (2, [.ref (B + 15), .ref (B + 16)])) := (fr11 _ (by decide)).trans k14
      have k15 : w8 15 = some (kl_aI G 24 ((mT 0))) := (fr11 _ (by decide)).trans k15
      have k16 : w8 16 = some (kl_aI G 96 ((mC 0))) := (fr11 _ (by decide)).trans k16
      have k17 : w8 17 = some (.inr (2, [.ref (B + 18), .ref (B + 19)])) := (fr11 _ (by decide)).trans k17
      have k18 : w8 18 = some (kl_aI G 24 ((mT 1))) := (fr11 _ (by decide)).trans k18
      have k19 : w8 19 = some (kl_aI G 96 ((mC 1))) := (fr11 _ (by decide)).trans k19
      have k20 : w8 20 = some (.inr (2, [.ref (B + 21), .ref (B + 22)])) := (fr11 _ (by decide)).trans k20
      have k21 : w8 21 = some (kl_aI G 24 ((mT 2))) := (fr11 _ (by decide)).trans k21
      have k22 : w8 22 = some (kl_aI G 96 ((mC 2))) := (fr11 _ (by decide)).trans k22
      have k23 : w8 23 = some (.inr (2, [.ref (B + 24), .ref (B + 25)])) := (fr11 _ (by decide)).trans k23
      have k24 : w8 24 = some (kl_aI G 24 ((mT 3))) := (fr11 _ (by decide)).trans k24
      have k25 : w8 25 = some (kl_aI G 96 ((mC 3))) := (fr11 _ (by decide)).trans k25
      have frm : ∀ j : Nat, j < 48 → j ≠ 0 → j ≠ 7 → j ≠ 8 → w8 j = w j := fun j hj k0 k1 k2 => (fr11 j hj).trans (frm j hj k0 k1 k2)
      refine lv_istore_n (lv' := [(2, .int r10), (1, .ref (B + 14)), (0, .ref (B + 0))]) hx hb dX4_back_32 rfl hl (by decide) rfl (fun ls hl => ?_)
      refine lv_aload_n hx hb dX4_back_33 rfl (lv_at hl 2 rfl) ?_
      refine lv_iload_n hx hb dX4_back_34 rfl (lv_at hl 0 rfl) ?_
      refine lv_if_eq (tgt := 42) hx hb dX4_back_35 (by decide) (fun c35 => ?_) (fun c35 => ?_)
      · refine lv_iconst (v := nI 0) hx hb dX4_back_42 (by decide) ?_
        refine lv_iload_n hx hb dX4_back_43 rfl (lv_at hl 0 rfl) ?_
        refine klx_cVv (C := RX4) (i := 0) (As := [.int (nI 0), .int r10]) (rest := []) ⟨hx, hb, hml, hown, hts⟩ (c_X4_refuseIf l hst G B _ (nI 0) r10 k0 (kl_b.f (P := False) not_false)) (cwV 2 hts gX4_back_X4_refuseIf rfl rfl rfl (by decide +kernel) ⟨Nat.le_of_ble_eq_true rfl, Nat.le_of_ble_eq_true rfl⟩) hK hZ hP k0 rfl rfl hl.1 rfl (Nat.le_of_ble_eq_true rfl) dX4_back_44 ⟨Nat.le_of_ble_eq_true rfl, Nat.le_of_ble_eq_true rfl⟩ (fun _ _ _ _ _ _ hpx _ _ _ _ => hpx.2.1.elim) (fun w12 H locs q13 hP => ?_)
        obtain ⟨rfl, ok15⟩ := q13
        refine lv_aload_n hx hb dX4_back_47 rfl (lv_at hl 2 rfl) ?_
        refine kl_get (C := RX4) (T := TX4) (N := 16) (ci := 4) hx hb hts hinX4 hown hK hP k0 rfl 10 (by decide) (hts (.fieldLink RX4 53 "KinLedger" "rows" "LKinLedger$Rows;") (by decide +kernel)) (fun _ h9 => h9) rfl dX4_back_48 ?_
        refine lv_aload_n hx hb dX4_back_51 rfl (lv_at hl 1 rfl) ?_
        refine kl_cVv (C := RX2) (i := 6) (As := [.ref (B + 14)]) (rest := []) ⟨hx, hb, hml, hown, hts⟩ (c_X2_become l G B _ 6 7 8 14 15 16 k6 k7 k8 k14 k15 k16 (by omega)) (cwV 1 hts gX4_back_X2_become rfl rfl rfl (by decide +kernel) ⟨Nat.le_of_ble_eq_true rfl, Nat.le_of_ble_eq_true rfl⟩) hK hP k6 rfl rfl hl.1 rfl (Nat.le_of_ble_eq_true rfl) dX4_back_52 ⟨Nat.le_of_ble_eq_true rfl, Nat.le_of_ble_eq_true rfl⟩ (fun w16 H locs q17 hP => ?_)
        obtain ⟨f19, f20, fr21⟩ := q17
        have k0 : w16 0 = some (.inr (4, [.ref (B + 1), .int (nI nT), .ref (B + 2), .int (nI nL), .ref (B + 3), .int (nI nS), .ref (B + 4), .int (nI nC), .ref (B + 5), .int (nI nW), .ref (B + 6), .ref (B + 9), .ref (B + 12), .int (nI 1), .ref (B + 13), .int rs])) := (fr21 _ (by decide) (by decide)).trans k0
        have k2 : w16 2 = some (kl_aR G 3 6 lf) := (fr21 _ (by decide) (by decide)).trans k2
        have k3 : w16 3 = some (kl_aR G 4 4 sf) := (fr21 _ (by decide) (by decide)).trans k3
        have k4 : w16 4 = some (kl_aR G 5 4 cf) := (fr21 _ (by decide) (by decide)).trans k4
        have k6 : w16 6 = some (.inr (2, [.ref (B + 7), .ref (B + 8)])) := (fr21 _ (by decide) (by decide)).trans k6
        have k12 : w16 12 = some (kl_aR G 6 4 ((fun j => some (B + (14 + 3 * j))))) := (fr21 _ (by decide) (by decide)).trans k12
        have k14 : w16 14 = some (.inr (2, [.ref (B + 15), .ref (B + 16)])) := (fr21 _ (by decide) (by decide)).trans k14
        have k15 : w16 15 = some (kl_aI G 24 ((mT 0))) := (fr21 _ (by decide) (by decide)).trans k15
        have k16 : w16 16 = some (kl_aI G 96 ((mC 0))) := (fr21 _ (by decide) (by decide)).trans k16
        have k17 : w16 17 = some (.inr (2, [.ref (B + 18), .ref (B + 19)])) := (fr21 _ (by decide) (by decide)).trans k17
        have k18 : w16 18 = some (kl_aI G 24 ((mT 1))) := (fr21 _ (by decide) (by decide)).trans k18
        have k19 : w16 19 = some (kl_aI G 96 ((mC 1))) := (fr21 _ (by decide) (by decide)).trans k19
        have k20 : w16 20 = some (.inr (2, [.ref (B + 21), .ref (B + 22)])) := (fr21 _ (by decide) (by decide)).trans k20
        have k21 : w16 21 = some (kl_aI G 24 ((mT 2))) := (fr21 _ (by decide) (by decide)).trans k21
        have k22 : w16 22 = some (kl_aI G 96 ((mC 2))) := (fr21 _ (by decide) (by decide)).trans k22
        have k23 : w16 23 = some (.inr (2, [.ref (B + 24), .ref (B + 25)])) := (fr21 _ (by decide) (by decide)).trans k23
        have k24 : w16 24 = some (kl_aI G 24 ((mT 3))) := (fr21 _ (by decide) (by decide)).trans k24
        have k25 : w16 25 = some (kl_aI G 96 ((mC 3))) := (fr21 _ (by decide) (by decide)).trans k25
        have hru := kl_RU.mv hru (fun j hj => fr21 j (by omega) (by omega))
        have frm : ∀ j : Nat, j < 48 → j ≠ 0 → j ≠ 7 → j ≠ 8 → w16 j = w j := fun j hj k0 k1 k2 => (fr21 j k1 k2).trans (frm j hj k0 k1 k2)
        refine lv_aload_n hx hb dX4_back_55 rfl (lv_at hl 2 rfl) ?_
        refine lv_dup hx hb dX4_back_56 rfl ?_
        refine kl_get (C := RX4) (T := TX4) (N := 16) (ci := 4) hx hb hts hinX4 hown hK hP k0 rfl 13 (by decide) (hts (.fieldLink RX4 64 "KinLedger" "rememberedCount" "I") (by decide +kernel)) (fun _ h9 => h9) rfl dX4_back_57 ?_
        refine lv_iconst (v := nI 1) hx hb dX4_back_60 (by decide) ?_
        refine lv_isub hx hb dX4_back_61 ?_
        refine kl_top (z := nI 0) (by first | exact pk_sub (by omega) | (rw [pk_sub (by omega)]; congr 1; omega)) ?_
        refine kl_put (C := RX4) (T := TX4) (N := 16) (ci := 4) (v := .int (nI 0)) (ty := .int) hx hb hts hinX4 tyX4 tyX4_ok nmX4 hown hK hP k0 rfl 13 (by decide) (hts (.fieldLink RX4 64 "KinLedger" "rememberedCount" "I") (by decide +kernel)) (fun _ h9 => h9) rfl (by decide +kernel) rfl rfl (Nat.le_of_ble_eq_true rfl) dX4_back_62 (fun w22 H locs f23 fr24 hzw22 hP => ?_)
        have f23 : w22 0 = some (.inr (4, [.ref (B + 1), .int (nI nT), .ref (B + 2), .int (nI nL), .ref (B + 3), .int (nI nS), .ref (B + 4), .int (nI nC), .ref (B + 5), .int (nI nW), .ref (B + 6), .ref (B + 9), .ref (B + 12), .int (nI 0), .ref (B + 13), .int rs])) := f23
        have k2 : w22 2 = some (kl_aR G 3 6 lf) := (fr24 _ (by decide)).trans k2
        have k3 : w22 3 = some (kl_aR G 4 4 sf) := (fr24 _ (by decide)).trans k3
        have k4 : w22 4 = some (kl_aR G 5 4 cf) := (fr24 _ (by decide)).trans k4
        have k6 : w22 6 = some (.inr (2, [.ref (B + 7), .ref (B + 8)])) := (fr24 _ (by decide)).trans k6
        have f19 : w22 7 = some (kl_aI G 24 ((mT 0))) := (fr24 _ (by decide)).trans f19
        have f20 : w22 8 = some (kl_aI G 96 ((mC 0))) := (fr24 _ (by decide)).trans f20
        have k12 : w22 12 = some (kl_aR G 6 4 ((fun j => some (B + (14 + 3 * j))))) := (fr24 _ (by decide)).trans k12
        have k14 : w22 14 = some (.inr (2, [.ref (B + 15), .ref (B + 16)])) := (fr24 _ (by decide)).trans k14
        have k15 : w22 15 = some (kl_aI G 24 ((mT 0))) := (fr24 _ (by decide)).trans k15
        have k16 : w22 16 = some (kl_aI G 96 ((mC 0))) := (fr24 _ (by decide)).trans k16
        have k17 : w22 17 = some (.inr (2, [.ref (B + 18), .ref (B + 19)])) := (fr24 _ (by decide)).trans k17
        have k18 : w22 18 = some (kl_aI G 24 ((mT 1))) := (fr24 _ (by decide)).trans k18
        have k19 : w22 19 = some (kl_aI G 96 ((mC 1))) := (fr24 _ (by decide)).trans k19
        have k20 : w22 20 = some (.inr (2, [.ref (B + 21), .ref (B + 22)])) := (fr24 _ (by decide)).trans k20
        have k21 : w22 21 = some (kl_aI G 24 ((mT 2))) := (fr24 _ (by decide)).trans k21
        have k22 : w22 22 = some (kl_aI G 96 ((mC 2))) := (fr24 _ (by decide)).trans k22
        have k23 : w22 23 = some (.inr (2, [.ref (B + 24), .ref (B + 25)])) := (fr24 _ (by decide)).trans k23
        have k24 : w22 24 = some (kl_aI G 24 ((mT 3))) := (fr24 _ (by decide)).trans k24
        have k25 : w22 25 = some (kl_aI G 96 ((mC 3))) := (fr24 _ (by decide)).trans k25
        have hru := kl_RU.mv hru (fun j hj => fr24 j (by omega))
        have frm : ∀ j : Nat, j < 48 → j ≠ 0 → j ≠ 7 → j ≠ 8 → w22 j = w j := fun j hj k0 k1 k2 => (fr24 j k0).trans (frm j hj k0 k1 k2)
        refine lv_aload_n hx hb dX4_back_65 rfl (lv_at hl 2 rfl) ?_
        refine kl_get (C := RX4) (T := TX4) (N := 16) (ci := 4) hx hb hts hinX4 hown hK hP f23 rfl 13 (by decide) (hts (.fieldLink RX4 64 "KinLedger" "rememberedCount" "I") (by decide +kernel)) (fun _ h9 => h9) rfl dX4_back_66 ?_
        refine W.widen (k := 2) (n := 12) (by omega) (by omega) ?_
        refine vx_ret ?_
        exact kl_iret hx hb hr hlocks hP ⟨0, rfl, (c35.trans nI_0.symm) ▸ hwhy, rfl, f23, hru, f19, f20, frm⟩ dX4_back_69
      · refine lv_iconst (v := nI 1) hx hb dX4_back_38 (by decide) ?_
        refine lv_goto (tgt := 43) hx hb dX4_back_39 (by decide) ?_
        refine lv_iload_n hx hb dX4_back_43 rfl (lv_at hl 0 rfl) ?_
        refine klx_cVv (C := RX4) (i := 0) (As := [.int (nI 1), .int r10]) (rest := []) ⟨hx, hb, hml, hown, hts⟩ (c_X4_refuseIf l hst G B _ (nI 1) r10 k0 (kl_b.t (P := True) trivial)) (cwV 2 hts gX4_back_X4_refuseIf rfl rfl rfl (by decide +kernel) ⟨Nat.le_of_ble_eq_true rfl, Nat.le_of_ble_eq_true rfl⟩) hK hZ hP k0 rfl rfl hl.1 rfl (Nat.le_of_ble_eq_true rfl) dX4_back_44 ⟨Nat.le_of_ble_eq_true rfl, Nat.le_of_ble_eq_true rfl⟩ (fun E ce q9 w9 H locs hpx hP h9 hv9 hc9 => kl_out hout hlocks hP (by obtain ⟨hE, -, h09, hfr9⟩ := hpx; exact Or.inr ⟨hE, 0, _, rfl, c35, hwhy, h09, kl_RU.mv hru (fun j hj => hfr9 j (by omega)), (hfr9 7 (by decide)).trans k7, (hfr9 8 (by decide)).trans k8, fun j hj k0 k1 k2 => (hfr9 j k0).trans (frm j hj k0 k1 k2)⟩) h9 hv9 hc9 (Nat.le_of_ble_eq_true rfl) (Nat.le_of_ble_eq_true rfl)) (fun w25 H locs q26 hP => ?_)
        exact (q26.2 trivial).elim
    · refine lv_aload_n hx hb dX4_back_15 rfl (lv_at hl 0 rfl) ?_
      refine kl_get (C := RX4) (T := TX4) (N := 16) (ci := 4) hx hb hts hinX4 hown hK hP k0 rfl 12 (by decide) (hts (.fieldLink RX4 60 "KinLedger" "remembered" "[LKinLedger$Rows;") (by decide +kernel)) (fun _ h9 => h9) rfl dX4_back_16 ?_
      refine lv_aload_n hx hb dX4_back_19 rfl (lv_at hl 0 rfl) ?_
      refine kl_get (C := RX4) (T := TX4) (N := 16) (ci := 4) hx hb hts hinX4 hown hK hP k0 rfl 13 (by decide) (hts (.fieldLink RX4 64 "KinLedger" "rememberedCount" "I") (by decide +kernel)) (fun _ h9 => h9) rfl dX4_back_20 ?_
      refine lv_iconst (v := nI 1) hx hb dX4_back_23 (by decide) ?_
      refine lv_isub hx hb dX4_back_24 ?_
      refine kl_top (z := nI 1) (by first | exact pk_sub (by omega) | (rw [pk_sub (by omega)]; congr 1; omega)) ?_
      refine kl_aald hx hb hK hP 6 (k0 := 6) k12 rfl (by omega) (by omega) (show _ = some (B + 17) from rfl) dX4_back_25 ?_
      refine lv_astore_n (lv' := [(1, .ref (B + 17)), (0, .ref (B + 0))]) hx hb dX4_back_26 rfl hl (by decide) rfl (fun ls hl => ?_)
      refine lv_aload_n hx hb dX4_back_27 rfl (lv_at hl 1 rfl) ?_
      refine lv_aload_n hx hb dX4_back_28 rfl (lv_at hl 0 rfl) ?_
      refine kl_cVi (C := RX4) (i := 0) (As := [.ref (B + 17)]) (rest := []) ⟨hx, hb, hml, hown, hts⟩ (c_X4_whyBroken l G B _ 17 18 19 k0 k2 k3 k4 k17 k18 k19 ⟨by omega, by omega, by omega, by omega, by omega, by omega⟩ hru ⟨by omega, by omega, by omega⟩) (cwV 1 hts gX4_back_X4_whyBroken rfl rfl rfl (by decide +kernel) ⟨Nat.le_of_ble_eq_true rfl, Nat.le_of_ble_eq_true rfl⟩) hK hP k0 rfl rfl hl.1 rfl (Nat.le_of_ble_eq_true rfl) dX4_back_29 ⟨Nat.le_of_ble_eq_true rfl, Nat.le_of_ble_eq_true rfl⟩ (fun r30 w28 H locs q29 hP => ?_)
      obtain ⟨hwhy, hru, fr31⟩ := q29
      have k0 : w28 0 = some (.inr (4, [.ref (B + 1), .int (nI nT), .ref (B + 2), .int (nI nL), .ref (B + 3), .int (nI nS), .ref (B + 4), .int (nI nC), .ref (B + 5), .int (nI nW), .ref (B + 6), .ref (B + 9), .ref (B + 12), .int (nI 2), .ref (B + 13), .int rs])) := (fr31 _ (by decide)).trans k0
      have k2 : w28 2 = some (kl_aR G 3 6 lf) := (fr31 _ (by decide)).trans k2
      have k3 : w28 3 = some (kl_aR G 4 4 sf) := (fr31 _ (by decide)).trans k3
      have k4 : w28 4 = some (kl_aR G 5 4 cf) := (fr31 _ (by decide)).trans k4
      have k6 : w28 6 = some (.inr (2, [.ref (B + 7), .ref (B + 8)])) := (fr31 _ (by decide)).trans k6
      have k7 : w28 7 = some (kl_aI G 24 T) := (fr31 _ (by decide)).trans k7
      have k8 : w28 8 = some (kl_aI G 96 C) := (fr31 _ (by decide)).trans k8
      have k12 : w28 12 = some (kl_aR G 6 4 ((fun j => some (B + (14 + 3 * j))))) := (fr31 _ (by decide)).trans k12
      have k14 : w28 14 = some (.inr (2, [.ref (B + 15), .ref (B + 16)])) := (fr31 _ (by decide)).trans k14
      have k15 : w28 15 = some (kl_aI G 24 ((mT 0))) := (fr31 _ (by decide)).trans k15
      have k16 : w28 16 = some (kl_aI G 96 ((mC 0))) := (fr31 _ (by decide)).trans k16
      have k17 : w28 17 = some (.inr (2, [.ref (B + 18), .ref (B + 19)])) := (fr31 _ (by decide)).trans k17
      have k18 : w28 18 = some (kl_aI G 24 ((mT 1))) := (fr31 _ (by decide)).trans k18
      have k19 : w28 19 = some (kl_aI G 96 ((mC 1))) := (fr31 _ (by decide)).trans k19
      have k20 : w28 20 = some (.inr (2, [.ref (B + 21), .ref (B + 22)])) := (fr31 _ (by decide)).trans k20
      have k21 : w28 21 = some (kl_aI G 24 ((mT 2))) := (fr31 _ (by decide)).trans k21
      have k22 : w28 22 = some (kl_aI G 96 ((mC 2))) := (fr31 _ (by decide)).trans k22
      have k23 : w28 23 = some (.inr (2, [.ref (B + 24), .ref (B + 25)])) := (fr31 _ (by decide)).trans k23
      have k24 : w28 24 = some (kl_aI G 24 ((mT 3))) := (fr31 _ (by decide)).trans k24
      have k25 : w28 25 = some (kl_aI G 96 ((mC 3))) := (fr31 _ (by decide)).trans k25
      have frm : ∀ j : Nat, j < 48 → j ≠ 0 → j ≠ 7 → j ≠ 8 → w28 j = w j := fun j hj k0 k1 k2 => (fr31 j hj).trans (frm j hj k0 k1 k2)
      refine lv_istore_n (lv' := [(2, .int r30), (1, .ref (B + 17)), (0, .ref (B + 0))]) hx hb dX4_back_32 rfl hl (by decide) rfl (fun ls hl => ?_)
      refine lv_aload_n hx hb dX4_back_33 rfl (lv_at hl 2 rfl) ?_
      refine lv_iload_n hx hb dX4_back_34 rfl (lv_at hl 0 rfl) ?_
      refine lv_if_eq (tgt := 42) hx hb dX4_back_35 (by decide) (fun c35 => ?_) (fun c35 => ?_)
      · refine lv_iconst (v := nI 0) hx hb dX4_back_42 (by decide) ?_
        refine lv_iload_n hx hb dX4_back_43 rfl (lv_at hl 0 rfl) ?_
        refine klx_cVv (C := RX4) (i := 0) (As := [.int (nI 0), .int r30]) (rest := []) ⟨hx, hb, hml, hown, hts⟩ (c_X4_refuseIf l hst G B _ (nI 0) r30 k0 (kl_b.f (P := False) not_false)) (cwV 2 hts gX4_back_X4_refuseIf rfl rfl rfl (by decide +kernel) ⟨Nat.le_of_ble_eq_true rfl, Nat.le_of_ble_eq_true rfl⟩) hK hZ hP k0 rfl rfl hl.1 rfl (Nat.le_of_ble_eq_true rfl) dX4_back_44 ⟨Nat.le_of_ble_eq_true rfl, Nat.le_of_ble_eq_true rfl⟩ (fun _ _ _ _ _ _ hpx _ _ _ _ => hpx.2.1.elim) (fun w32 H locs q33 hP => ?_)
        obtain ⟨rfl, ok35⟩ := q33
        refine lv_aload_n hx hb dX4_back_47 rfl (lv_at hl 2 rfl) ?_
        refine kl_get (C := RX4) (T := TX4) (N := 16) (ci := 4) hx hb hts hinX4 hown hK hP k0 rfl 10 (by decide) (hts (.fieldLink RX4 53 "KinLedger" "rows" "LKinLedger$Rows;") (by decide +kernel)) (fun _ h9 => h9) rfl dX4_back_48 ?_
        refine lv_aload_n hx hb dX4_back_51 rfl (lv_at hl 1 rfl) ?_
        refine kl_cVv (C := RX2) (i := 6) (As := [.ref (B + 17)]) (rest := []) ⟨hx, hb, hml, hown, hts⟩ (c_X2_become l G B _ 6 7 8 17 18 19 k6 k7 k8 k17 k18 k19 (by omega)) (cwV 1 hts gX4_back_X2_become rfl rfl rfl (by decide +kernel) ⟨Nat.le_of_ble_eq_true rfl, Nat.le_of_ble_eq_true rfl⟩) hK hP k6 rfl rfl hl.1 rfl (Nat.le_of_ble_eq_true rfl) dX4_back_52 ⟨Nat.le_of_ble_eq_true rfl, Nat.le_of_ble_eq_true rfl⟩ (fun w36 H locs q37 hP => ?_)
        obtain ⟨f39, f40, fr41⟩ := q37
        have k0 : w36 0 = some (.inr (4, [.ref (B + 1), .int (nI nT), .ref (B + 2), .int (nI nL), .ref (B + 3), .int (nI nS), .ref (B + 4), .int (nI nC), .ref (B + 5), .int (nI nW), .ref (B + 6), .ref (B + 9), .ref (B + 12), .int (nI 2), .ref (B + 13), .int rs])) := (fr41 _ (by decide) (by decide)).trans k0
        have k2 : w36 2 = some (kl_aR G 3 6 lf) := (fr41 _ (by decide) (by decide)).trans k2
        have k3 : w36 3 = some (kl_aR G 4 4 sf) := (fr41 _ (by decide) (by decide)).trans k3
        have k4 : w36 4 = some (kl_aR G 5 4 cf) := (fr41 _ (by decide) (by decide)).trans k4
        have k6 : w36 6 = some (.inr (2, [.ref (B + 7), .ref (B + 8)])) := (fr41 _ (by decide) (by decide)).trans k6
        have k12 : w36 12 = some (kl_aR G 6 4 ((fun j => some (B + (14 + 3 * j))))) := (fr41 _ (by decide) (by decide)).trans k12
        have k14 : w36 14 = some (.inr (2, [.ref (B + 15), .ref (B + 16)])) := (fr41 _ (by decide) (by decide)).trans k14
        have k15 : w36 15 = some (kl_aI G 24 ((mT 0))) := (fr41 _ (by decide) (by decide)).trans k15
        have k16 : w36 16 = some (kl_aI G 96 ((mC 0))) := (fr41 _ (by decide) (by decide)).trans k16
        have k17 : w36 17 = some (.inr (2, [.ref (B + 18), .ref (B + 19)])) := (fr41 _ (by decide) (by decide)).trans k17
        have k18 : w36 18 = some (kl_aI G 24 ((mT 1))) := (fr41 _ (by decide) (by decide)).trans k18
        have k19 : w36 19 = some (kl_aI G 96 ((mC 1))) := (fr41 _ (by decide) (by decide)).trans k19
        have k20 : w36 20 = some (.inr (2, [.ref (B + 21), .ref (B + 22)])) := (fr41 _ (by decide) (by decide)).trans k20
        have k21 : w36 21 = some (kl_aI G 24 ((mT 2))) := (fr41 _ (by decide) (by decide)).trans k21
        have k22 : w36 22 = some (kl_aI G 96 ((mC 2))) := (fr41 _ (by decide) (by decide)).trans k22
        have k23 : w36 23 = some (.inr (2, [.ref (B + 24), .ref (B + 25)])) := (fr41 _ (by decide) (by decide)).trans k23
        have k24 : w36 24 = some (kl_aI G 24 ((mT 3))) := (fr41 _ (by decide) (by decide)).trans k24
        have k25 : w36 25 = some (kl_aI G 96 ((mC 3))) := (fr41 _ (by decide) (by decide)).trans k25
        have hru := kl_RU.mv hru (fun j hj => fr41 j (by omega) (by omega))
        have frm : ∀ j : Nat, j < 48 → j ≠ 0 → j ≠ 7 → j ≠ 8 → w36 j = w j := fun j hj k0 k1 k2 => (fr41 j k1 k2).trans (frm j hj k0 k1 k2)
        refine lv_aload_n hx hb dX4_back_55 rfl (lv_at hl 2 rfl) ?_
        refine lv_dup hx hb dX4_back_56 rfl ?_
        refine kl_get (C := RX4) (T := TX4) (N := 16) (ci := 4) hx hb hts hinX4 hown hK hP k0 rfl 13 (by decide) (hts (.fieldLink RX4 64 "KinLedger" "rememberedCount" "I") (by decide +kernel)) (fun _ h9 => h9) rfl dX4_back_57 ?_
        refine lv_iconst (v := nI 1) hx hb dX4_back_60 (by decide) ?_
        refine lv_isub hx hb dX4_back_61 ?_
        refine kl_top (z := nI 1) (by first | exact pk_sub (by omega) | (rw [pk_sub (by omega)]; congr 1; omega)) ?_
        refine kl_put (C := RX4) (T := TX4) (N := 16) (ci := 4) (v := .int (nI 1)) (ty := .int) hx hb hts hinX4 tyX4 tyX4_ok nmX4 hown hK hP k0 rfl 13 (by decide) (hts (.fieldLink RX4 64 "KinLedger" "rememberedCount" "I") (by decide +kernel)) (fun _ h9 => h9) rfl (by decide +kernel) rfl rfl (Nat.le_of_ble_eq_true rfl) dX4_back_62 (fun w42 H locs f43 fr44 hzw42 hP => ?_)
        have f43 : w42 0 = some (.inr (4, [.ref (B + 1), .int (nI nT), .ref (B + 2), .int (nI nL), .ref (B + 3), .int (nI nS), .ref (B + 4), .int (nI nC), .ref (B + 5), .int (nI nW), .ref (B + 6), .ref (B + 9), .ref (B + 12), .int (nI 1), .ref (B + 13), .int rs])) := f43
        have k2 : w42 2 = some (kl_aR G 3 6 lf) := (fr44 _ (by decide)).trans k2
        have k3 : w42 3 = some (kl_aR G 4 4 sf) := (fr44 _ (by decide)).trans k3
        have k4 : w42 4 = some (kl_aR G 5 4 cf) := (fr44 _ (by decide)).trans k4
        have k6 : w42 6 = some (.inr (2, [.ref (B + 7), .ref (B + 8)])) := (fr44 _ (by decide)).trans k6
        have f39 : w42 7 = some (kl_aI G 24 ((mT 1))) := (fr44 _ (by decide)).trans f39
        have f40 : w42 8 = some (kl_aI G 96 ((mC 1))) := (fr44 _ (by decide)).trans f40
        have k12 : w42 12 = some (kl_aR G 6 4 ((fun j => some (B + (14 + 3 * j))))) := (fr44 _ (by decide)).trans k12
        have k14 : w42 14 = some (.inr (2, [.ref (B + 15), .ref (B + 16)])) := (fr44 _ (by decide)).trans k14
        have k15 : w42 15 = some (kl_aI G 24 ((mT 0))) := (fr44 _ (by decide)).trans k15
        have k16 : w42 16 = some (kl_aI G 96 ((mC 0))) := (fr44 _ (by decide)).trans k16
        have k17 : w42 17 = some (.inr (2, [.ref (B + 18), .ref (B + 19)])) := (fr44 _ (by decide)).trans k17
        have k18 : w42 18 = some (kl_aI G 24 ((mT 1))) := (fr44 _ (by decide)).trans k18
        have k19 : w42 19 = some (kl_aI G 96 ((mC 1))) := (fr44 _ (by decide)).trans k19
        have k20 : w42 20 = some (.inr (2, [.ref (B + 21), .ref (B + 22)])) := (fr44 _ (by decide)).trans k20
        have k21 : w42 21 = some (kl_aI G 24 ((mT 2))) := (fr44 _ (by decide)).trans k21
        have k22 : w42 22 = some (kl_aI G 96 ((mC 2))) := (fr44 _ (by decide)).trans k22
        have k23 : w42 23 = some (.inr (2, [.ref (B + 24), .ref (B + 25)])) := (fr44 _ (by decide)).trans k23
        have k24 : w42 24 = some (kl_aI G 24 ((mT 3))) := (fr44 _ (by decide)).trans k24
        have k25 : w42 25 = some (kl_aI G 96 ((mC 3))) := (fr44 _ (by decide)).trans k25
        have hru := kl_RU.mv hru (fun j hj => fr44 j (by omega))
        have frm : ∀ j : Nat, j < 48 → j ≠ 0 → j ≠ 7 → j ≠ 8 → w42 j = w j := fun j hj k0 k1 k2 => (fr44 j k0).trans (frm j hj k0 k1 k2)
        refine lv_aload_n hx hb dX4_back_65 rfl (lv_at hl 2 rfl) ?_
        refine kl_get (C := RX4) (T := TX4) (N := 16) (ci := 4) hx hb hts hinX4 hown hK hP f43 rfl 13 (by decide) (hts (.fieldLink RX4 64 "KinLedger" "rememberedCount" "I") (by decide +kernel)) (fun _ h9 => h9) rfl dX4_back_66 ?_
        refine W.widen (k := 2) (n := 12) (by omega) (by omega) ?_
        refine vx_ret ?_
        exact kl_iret hx hb hr hlocks hP ⟨1, rfl, (c35.trans nI_0.symm) ▸ hwhy, rfl, f43, hru, f39, f40, frm⟩ dX4_back_69
      · refine lv_iconst (v := nI 1) hx hb dX4_back_38 (by decide) ?_
        refine lv_goto (tgt := 43) hx hb dX4_back_39 (by decide) ?_
        refine lv_iload_n hx hb dX4_back_43 rfl (lv_at hl 0 rfl) ?_
        refine klx_cVv (C := RX4) (i := 0) (As := [.int (nI 1), .int r30]) (rest := []) ⟨hx, hb, hml, hown, hts⟩ (c_X4_refuseIf l hst G B _ (nI 1) r30 k0 (kl_b.t (P := True) trivial)) (cwV 2 hts gX4_back_X4_refuseIf rfl rfl rfl (by decide +kernel) ⟨Nat.le_of_ble_eq_true rfl, Nat.le_of_ble_eq_true rfl⟩) hK hZ hP k0 rfl rfl hl.1 rfl (Nat.le_of_ble_eq_true rfl) dX4_back_44 ⟨Nat.le_of_ble_eq_true rfl, Nat.le_of_ble_eq_true rfl⟩ (fun E ce q9 w9 H locs hpx hP h9 hv9 hc9 => kl_out hout hlocks hP (by obtain ⟨hE, -, h09, hfr9⟩ := hpx; exact Or.inr ⟨hE, 1, _, rfl, c35, hwhy, h09, kl_RU.mv hru (fun j hj => hfr9 j (by omega)), (hfr9 7 (by decide)).trans k7, (hfr9 8 (by decide)).trans k8, fun j hj k0 k1 k2 => (hfr9 j k0).trans (frm j hj k0 k1 k2)⟩) h9 hv9 hc9 (Nat.le_of_ble_eq_true rfl) (Nat.le_of_ble_eq_true rfl)) (fun w45 H locs q46 hP => ?_)
        exact (q46.2 trivial).elim
    · refine lv_aload_n hx hb dX4_back_15 rfl (lv_at hl 0 rfl) ?_
      refine kl_get (C := RX4) (T := TX4) (N := 16) (ci := 4) hx hb hts hinX4 hown hK hP k0 rfl 12 (by decide) (hts (.fieldLink RX4 60 "KinLedger" "remembered" "[LKinLedger$Rows;") (by decide +kernel)) (fun _ h9 => h9) rfl dX4_back_16 ?_
      refine lv_aload_n hx hb dX4_back_19 rfl (lv_at hl 0 rfl) ?_
      refine kl_get (C := RX4) (T := TX4) (N := 16) (ci := 4) hx hb hts hinX4 hown hK hP k0 rfl 13 (by decide) (hts (.fieldLink RX4 64 "KinLedger" "rememberedCount" "I") (by decide +kernel)) (fun _ h9 => h9) rfl dX4_back_20 ?_
      refine lv_iconst (v := nI 1) hx hb dX4_back_23 (by decide) ?_
      refine lv_isub hx hb dX4_back_24 ?_
      refine kl_top (z := nI 2) (by first | exact pk_sub (by omega) | (rw [pk_sub (by omega)]; congr 1; omega)) ?_
      refine kl_aald hx hb hK hP 6 (k0 := 6) k12 rfl (by omega) (by omega) (show _ = some (B + 20) from rfl) dX4_back_25 ?_
      refine lv_astore_n (lv' := [(1, .ref (B + 20)), (0, .ref (B + 0))]) hx hb dX4_back_26 rfl hl (by decide) rfl (fun ls hl => ?_)
      refine lv_aload_n hx hb dX4_back_27 rfl (lv_at hl 1 rfl) ?_
      refine lv_aload_n hx hb dX4_back_28 rfl (lv_at hl 0 rfl) ?_
      refine kl_cVi (C := RX4) (i := 0) (As := [.ref (B + 20)]) (rest := []) ⟨hx, hb, hml, hown, hts⟩ (c_X4_whyBroken l G B _ 20 21 22 k0 k2 k3 k4 k20 k21 k22 ⟨by omega, by omega, by omega, by omega, by omega, by omega⟩ hru ⟨by omega, by omega, by omega⟩) (cwV 1 hts gX4_back_X4_whyBroken rfl rfl rfl (by decide +kernel) ⟨Nat.le_of_ble_eq_true rfl, Nat.le_of_ble_eq_true rfl⟩) hK hP k0 rfl rfl hl.1 rfl (Nat.le_of_ble_eq_true rfl) dX4_back_29 ⟨Nat.le_of_ble_eq_true rfl, Nat.le_of_ble_eq_true rfl⟩ (fun r50 w48 H locs q49 hP => ?_)
      obtain ⟨hwhy, hru, fr51⟩ := q49
      have k0 : w48 0 = some (.inr (4, [.ref (B + 1), .int (nI nT), .ref (B + 2), .int (nI nL), .ref (B + 3), .int (nI nS), .ref (B + 4), .int (nI nC), .ref (B + 5), .int (nI nW), .ref (B + 6), .ref (B + 9), .ref (B + 12), .int (nI 3), .ref (B + 13), .int rs])) := (fr51 _ (by decide)).trans k0
      have k2 : w48 2 = some (kl_aR G 3 6 lf) := (fr51 _ (by decide)).trans k2
      have k3 : w48 3 = some (kl_aR G 4 4 sf) := (fr51 _ (by decide)).trans k3
      have k4 : w48 4 = some (kl_aR G 5 4 cf) := (fr51 _ (by decide)).trans k4
      have k6 : w48 6 = some (.inr (2, [.ref (B + 7), .ref (B + 8)])) := (fr51 _ (by decide)).trans k6
      have k7 : w48 7 = some (kl_aI G 24 T) := (fr51 _ (by decide)).trans k7
      have k8 : w48 8 = some (kl_aI G 96 C) := (fr51 _ (by decide)).trans k8
      have k12 : w48 12 = some (kl_aR G 6 4 ((fun j => some (B + (14 + 3 * j))))) := (fr51 _ (by decide)).trans k12
      have k14 : w48 14 = some (.inr (2, [.ref (B + 15), .ref (B + 16)])) := (fr51 _ (by decide)).trans k14
      have k15 : w48 15 = some (kl_aI G 24 ((mT 0))) := (fr51 _ (by decide)).trans k15
      have k16 : w48 16 = some (kl_aI G 96 ((mC 0))) := (fr51 _ (by decide)).trans k16
      have k17 : w48 17 = some (.inr (2, [.ref (B + 18), .ref (B + 19)])) := (fr51 _ (by decide)).trans k17
      have k18 : w48 18 = some (kl_aI G 24 ((mT 1))) := (fr51 _ (by decide)).trans k18
      have k19 : w48 19 = some (kl_aI G 96 ((mC 1))) := (fr51 _ (by decide)).trans k19
      have k20 : w48 20 = some (.inr (2, [.ref (B + 21), .ref (B + 22)])) := (fr51 _ (by decide)).trans k20
      have k21 : w48 21 = some (kl_aI G 24 ((mT 2))) := (fr51 _ (by decide)).trans k21
      have k22 : w48 22 = some (kl_aI G 96 ((mC 2))) := (fr51 _ (by decide)).trans k22
      have k23 : w48 23 = some (.inr (2, [.ref (B + 24), .ref (B + 25)])) := (fr51 _ (by decide)).trans k23
      have k24 : w48 24 = some (kl_aI G 24 ((mT 3))) := (fr51 _ (by decide)).trans k24
      have k25 : w48 25 = some (kl_aI G 96 ((mC 3))) := (fr51 _ (by decide)).trans k25
      have frm : ∀ j : Nat, j < 48 → j ≠ 0 → j ≠ 7 → j ≠ 8 → w48 j = w j := fun j hj k0 k1 k2 => (fr51 j hj).trans (frm j hj k0 k1 k2)
      refine lv_istore_n (lv' := [(2, .int r50), (1, .ref (B + 20)), (0, .ref (B + 0))]) hx hb dX4_back_32 rfl hl (by decide) rfl (fun ls hl => ?_)
      refine lv_aload_n hx hb dX4_back_33 rfl (lv_at hl 2 rfl) ?_
      refine lv_iload_n hx hb dX4_back_34 rfl (lv_at hl 0 rfl) ?_
      refine lv_if_eq (tgt := 42) hx hb dX4_back_35 (by decide) (fun c35 => ?_) (fun c35 => ?_)
      · refine lv_iconst (v := nI 0) hx hb dX4_back_42 (by decide) ?_
        refine lv_iload_n hx hb dX4_back_43 rfl (lv_at hl 0 rfl) ?_
        refine klx_cVv (C := RX4) (i := 0) (As := [.int (nI 0), .int r50]) (rest := []) ⟨hx, hb, hml, hown, hts⟩ (c_X4_refuseIf l hst G B _ (nI 0) r50 k0 (kl_b.f (P := False) not_false)) (cwV 2 hts gX4_back_X4_refuseIf rfl rfl rfl (by decide +kernel) ⟨Nat.le_of_ble_eq_true rfl, Nat.le_of_ble_eq_true rfl⟩) hK hZ hP k0 rfl rfl hl.1 rfl (Nat.le_of_ble_eq_true rfl) dX4_back_44 ⟨Nat.le_of_ble_eq_true rfl, Nat.le_of_ble_eq_true rfl⟩ (fun _ _ _ _ _ _ hpx _ _ _ _ => hpx.2.1.elim) (fun w52 H locs q53 hP => ?_)
        obtain ⟨rfl, ok55⟩ := q53
        refine lv_aload_n hx hb dX4_back_47 rfl (lv_at hl 2 rfl) ?_
        refine kl_get (C := RX4) (T := TX4) (N := 16) (ci := 4) hx hb hts hinX4 hown hK hP k0 rfl 10 (by decide) (hts (.fieldLink RX4 53 "KinLedger" "rows" "LKinLedger$Rows;") (by decide +kernel)) (fun _ h9 => h9) rfl dX4_back_48 ?_
        refine lv_aload_n hx hb dX4_back_51 rfl (lv_at hl 1 rfl) ?_
        refine kl_cVv (C := RX2) (i := 6) (As := [.ref (B + 20)]) (rest := []) ⟨hx, hb, hml, hown, hts⟩ (c_X2_become l G B _ 6 7 8 20 21 22 k6 k7 k8 k20 k21 k22 (by omega)) (cwV 1 hts gX4_back_X2_become rfl rfl rfl (by decide +kernel) ⟨Nat.le_of_ble_eq_true rfl, Nat.le_of_ble_eq_true rfl⟩) hK hP k6 rfl rfl hl.1 rfl (Nat.le_of_ble_eq_true rfl) dX4_back_52 ⟨Nat.le_of_ble_eq_true rfl, Nat.le_of_ble_eq_true rfl⟩ (fun w56 H locs q57 hP => ?_)
        obtain ⟨f59, f60, fr61⟩ := q57
        have k0 : w56 0 = some (.inr (4, [.ref (B + 1), .int (nI nT), .ref (B + 2), .int (nI nL), .ref (B + 3), .int (nI nS), .ref (B + 4), .int (nI nC), .ref (B + 5), .int (nI nW), .ref (B + 6), .ref (B + 9), .ref (B + 12), .int (nI 3), .ref (B + 13), .int rs])) := (fr61 _ (by decide) (by decide)).trans k0
        have k2 : w56 2 = some (kl_aR G 3 6 lf) := (fr61 _ (by decide) (by decide)).trans k2
        have k3 : w56 3 = some (kl_aR G 4 4 sf) := (fr61 _ (by decide) (by decide)).trans k3
        have k4 : w56 4 = some (kl_aR G 5 4 cf) := (fr61 _ (by decide) (by decide)).trans k4
        have k6 : w56 6 = some (.inr (2, [.ref (B + 7), .ref (B + 8)])) := (fr61 _ (by decide) (by decide)).trans k6
        have k12 : w56 12 = some (kl_aR G 6 4 ((fun j => some (B + (14 + 3 * j))))) := (fr61 _ (by decide) (by decide)).trans k12
        have k14 : w56 14 = some (.inr (2, [.ref (B + 15), .ref (B + 16)])) := (fr61 _ (by decide) (by decide)).trans k14
        have k15 : w56 15 = some (kl_aI G 24 ((mT 0))) := (fr61 _ (by decide) (by decide)).trans k15
        have k16 : w56 16 = some (kl_aI G 96 ((mC 0))) := (fr61 _ (by decide) (by decide)).trans k16
        have k17 : w56 17 = some (.inr (2, [.ref (B + 18), .ref (B + 19)])) := (fr61 _ (by decide) (by decide)).trans k17
        have k18 : w56 18 = some (kl_aI G 24 ((mT 1))) := (fr61 _ (by decide) (by decide)).trans k18
        have k19 : w56 19 = some (kl_aI G 96 ((mC 1))) := (fr61 _ (by decide) (by decide)).trans k19
        have k20 : w56 20 = some (.inr (2, [.ref (B + 21), .ref (B + 22)])) := (fr61 _ (by decide) (by decide)).trans k20
        have k21 : w56 21 = some (kl_aI G 24 ((mT 2))) := (fr61 _ (by decide) (by decide)).trans k21
        have k22 : w56 22 = some (kl_aI G 96 ((mC 2))) := (fr61 _ (by decide) (by decide)).trans k22
        have k23 : w56 23 = some (.inr (2, [.ref (B + 24), .ref (B + 25)])) := (fr61 _ (by decide) (by decide)).trans k23
        have k24 : w56 24 = some (kl_aI G 24 ((mT 3))) := (fr61 _ (by decide) (by decide)).trans k24
        have k25 : w56 25 = some (kl_aI G 96 ((mC 3))) := (fr61 _ (by decide) (by decide)).trans k25
        have hru := kl_RU.mv hru (fun j hj => fr61 j (by omega) (by omega))
        have frm : ∀ j : Nat, j < 48 → j ≠ 0 → j ≠ 7 → j ≠ 8 → w56 j = w j := fun j hj k0 k1 k2 => (fr61 j k1 k2).trans (frm j hj k0 k1 k2)
        refine lv_aload_n hx hb dX4_back_55 rfl (lv_at hl 2 rfl) ?_
        refine lv_dup hx hb dX4_back_56 rfl ?_
        refine kl_get (C := RX4) (T := TX4) (N := 16) (ci := 4) hx hb hts hinX4 hown hK hP k0 rfl 13 (by decide) (hts (.fieldLink RX4 64 "KinLedger" "rememberedCount" "I") (by decide +kernel)) (fun _ h9 => h9) rfl dX4_back_57 ?_
        refine lv_iconst (v := nI 1) hx hb dX4_back_60 (by decide) ?_
        refine lv_isub hx hb dX4_back_61 ?_
        refine kl_top (z := nI 2) (by first | exact pk_sub (by omega) | (rw [pk_sub (by omega)]; congr 1; omega)) ?_
        refine kl_put (C := RX4) (T := TX4) (N := 16) (ci := 4) (v := .int (nI 2)) (ty := .int) hx hb hts hinX4 tyX4 tyX4_ok nmX4 hown hK hP k0 rfl 13 (by decide) (hts (.fieldLink RX4 64 "KinLedger" "rememberedCount" "I") (by decide +kernel)) (fun _ h9 => h9) rfl (by decide +kernel) rfl rfl (Nat.le_of_ble_eq_true rfl) dX4_back_62 (fun w62 H locs f63 fr64 hzw62 hP => ?_)
        have f63 : w62 0 = some (.inr (4, [.ref (B + 1), .int (nI nT), .ref (B + 2), .int (nI nL), .ref (B + 3), .int (nI nS), .ref (B + 4), .int (nI nC), .ref (B + 5), .int (nI nW), .ref (B + 6), .ref (B + 9), .ref (B + 12), .int (nI 2), .ref (B + 13), .int rs])) := f63
        have k2 : w62 2 = some (kl_aR G 3 6 lf) := (fr64 _ (by decide)).trans k2
        have k3 : w62 3 = some (kl_aR G 4 4 sf) := (fr64 _ (by decide)).trans k3
        have k4 : w62 4 = some (kl_aR G 5 4 cf) := (fr64 _ (by decide)).trans k4
        have k6 : w62 6 = some (.inr (2, [.ref (B + 7), .ref (B + 8)])) := (fr64 _ (by decide)).trans k6
        have f59 : w62 7 = some (kl_aI G 24 ((mT 2))) := (fr64 _ (by decide)).trans f59
        have f60 : w62 8 = some (kl_aI G 96 ((mC 2))) := (fr64 _ (by decide)).trans f60
        have k12 : w62 12 = some (kl_aR G 6 4 ((fun j => some (B + (14 + 3 * j))))) := (fr64 _ (by decide)).trans k12
        have k14 : w62 14 = some (.inr (2, [.ref (B + 15), .ref (B + 16)])) := (fr64 _ (by decide)).trans k14
        have k15 : w62 15 = some (kl_aI G 24 ((mT 0))) := (fr64 _ (by decide)).trans k15
        have k16 : w62 16 = some (kl_aI G 96 ((mC 0))) := (fr64 _ (by decide)).trans k16
        have k17 : w62 17 = some (.inr (2, [.ref (B + 18), .ref (B + 19)])) := (fr64 _ (by decide)).trans k17
        have k18 : w62 18 = some (kl_aI G 24 ((mT 1))) := (fr64 _ (by decide)).trans k18
        have k19 : w62 19 = some (kl_aI G 96 ((mC 1))) := (fr64 _ (by decide)).trans k19
        have k20 : w62 20 = some (.inr (2, [.ref (B + 21), .ref (B + 22)])) := (fr64 _ (by decide)).trans k20
        have k21 : w62 21 = some (kl_aI G 24 ((mT 2))) := (fr64 _ (by decide)).trans k21
        have k22 : w62 22 = some (kl_aI G 96 ((mC 2))) := (fr64 _ (by decide)).trans k22
        have k23 : w62 23 = some (.inr (2, [.ref (B + 24), .ref (B + 25)])) := (fr64 _ (by decide)).trans k23
        have k24 : w62 24 = some (kl_aI G 24 ((mT 3))) := (fr64 _ (by decide)).trans k24
        have k25 : w62 25 = some (kl_aI G 96 ((mC 3))) := (fr64 _ (by decide)).trans k25
        have hru := kl_RU.mv hru (fun j hj => fr64 j (by omega))
        have frm : ∀ j : Nat, j < 48 → j ≠ 0 → j ≠ 7 → j ≠ 8 → w62 j = w j := fun j hj k0 k1 k2 => (fr64 j k0).trans (frm j hj k0 k1 k2)
        refine lv_aload_n hx hb dX4_back_65 rfl (lv_at hl 2 rfl) ?_
        refine kl_get (C := RX4) (T := TX4) (N := 16) (ci := 4) hx hb hts hinX4 hown hK hP f63 rfl 13 (by decide) (hts (.fieldLink RX4 64 "KinLedger" "rememberedCount" "I") (by decide +kernel)) (fun _ h9 => h9) rfl dX4_back_66 ?_
        refine W.widen (k := 2) (n := 12) (by omega) (by omega) ?_
        refine vx_ret ?_
        exact kl_iret hx hb hr hlocks hP ⟨2, rfl, (c35.trans nI_0.symm) ▸ hwhy, rfl, f63, hru, f59, f60, frm⟩ dX4_back_69
      · refine lv_iconst (v := nI 1) hx hb dX4_back_38 (by decide) ?_
        refine lv_goto (tgt := 43) hx hb dX4_back_39 (by decide) ?_
        refine lv_iload_n hx hb dX4_back_43 rfl (lv_at hl 0 rfl) ?_
        refine klx_cVv (C := RX4) (i := 0) (As := [.int (nI 1), .int r50]) (rest := []) ⟨hx, hb, hml, hown, hts⟩ (c_X4_refuseIf l hst G B _ (nI 1) r50 k0 (kl_b.t (P := True) trivial)) (cwV 2 hts gX4_back_X4_refuseIf rfl rfl rfl (by decide +kernel) ⟨Nat.le_of_ble_eq_true rfl, Nat.le_of_ble_eq_true rfl⟩) hK hZ hP k0 rfl rfl hl.1 rfl (Nat.le_of_ble_eq_true rfl) dX4_back_44 ⟨Nat.le_of_ble_eq_true rfl, Nat.le_of_ble_eq_true rfl⟩ (fun E ce q9 w9 H locs hpx hP h9 hv9 hc9 => kl_out hout hlocks hP (by obtain ⟨hE, -, h09, hfr9⟩ := hpx; exact Or.inr ⟨hE, 2, _, rfl, c35, hwhy, h09, kl_RU.mv hru (fun j hj => hfr9 j (by omega)), (hfr9 7 (by decide)).trans k7, (hfr9 8 (by decide)).trans k8, fun j hj k0 k1 k2 => (hfr9 j k0).trans (frm j hj k0 k1 k2)⟩) h9 hv9 hc9 (Nat.le_of_ble_eq_true rfl) (Nat.le_of_ble_eq_true rfl)) (fun w65 H locs q66 hP => ?_)
        exact (q66.2 trivial).elim
    · refine lv_aload_n hx hb dX4_back_15 rfl (lv_at hl 0 rfl) ?_
      refine kl_get (C := RX4) (T := TX4) (N := 16) (ci := 4) hx hb hts hinX4 hown hK hP k0 rfl 12 (by decide) (hts (.fieldLink RX4 60 "KinLedger" "remembered" "[LKinLedger$Rows;") (by decide +kernel)) (fun _ h9 => h9) rfl dX4_back_16 ?_
      refine lv_aload_n hx hb dX4_back_19 rfl (lv_at hl 0 rfl) ?_
      refine kl_get (C := RX4) (T := TX4) (N := 16) (ci := 4) hx hb hts hinX4 hown hK hP k0 rfl 13 (by decide) (hts (.fieldLink RX4 64 "KinLedger" "rememberedCount" "I") (by decide +kernel)) (fun _ h9 => h9) rfl dX4_back_20 ?_
      refine lv_iconst (v := nI 1) hx hb dX4_back_23 (by decide) ?_
      refine lv_isub hx hb dX4_back_24 ?_
      refine kl_top (z := nI 3) (by first | exact pk_sub (by omega) | (rw [pk_sub (by omega)]; congr 1; omega)) ?_
      refine kl_aald hx hb hK hP 6 (k0 := 6) k12 rfl (by omega) (by omega) (show _ = some (B + 23) from rfl) dX4_back_25 ?_
      refine lv_astore_n (lv' := [(1, .ref (B + 23)), (0, .ref (B + 0))]) hx hb dX4_back_26 rfl hl (by decide) rfl (fun ls hl => ?_)
      refine lv_aload_n hx hb dX4_back_27 rfl (lv_at hl 1 rfl) ?_
      refine lv_aload_n hx hb dX4_back_28 rfl (lv_at hl 0 rfl) ?_
      refine kl_cVi (C := RX4) (i := 0) (As := [.ref (B + 23)]) (rest := []) ⟨hx, hb, hml, hown, hts⟩ (c_X4_whyBroken l G B _ 23 24 25 k0 k2 k3 k4 k23 k24 k25 ⟨by omega, by omega, by omega, by omega, by omega, by omega⟩ hru ⟨by omega, by omega, by omega⟩) (cwV 1 hts gX4_back_X4_whyBroken rfl rfl rfl (by decide +kernel) ⟨Nat.le_of_ble_eq_true rfl, Nat.le_of_ble_eq_true rfl⟩) hK hP k0 rfl rfl hl.1 rfl (Nat.le_of_ble_eq_true rfl) dX4_back_29 ⟨Nat.le_of_ble_eq_true rfl, Nat.le_of_ble_eq_true rfl⟩ (fun r70 w68 H locs q69 hP => ?_)
      obtain ⟨hwhy, hru, fr71⟩ := q69
      have k0 : w68 0 = some (.inr (4, [.ref (B + 1), .int (nI nT), .ref (B + 2), .int (nI nL), .ref (B + 3), .int (nI nS), .ref (B + 4), .int (nI nC), .ref (B + 5), .int (nI nW), .ref (B + 6), .ref (B + 9), .ref (B + 12), .int (nI 4), .ref (B + 13), .int rs])) := (fr71 _ (by decide)).trans k0
      have k2 : w68 2 = some (kl_aR G 3 6 lf) := (fr71 _ (by decide)).trans k2
      have k3 : w68 3 = some (kl_aR G 4 4 sf) := (fr71 _ (by decide)).trans k3
      have k4 : w68 4 = some (kl_aR G 5 4 cf) := (fr71 _ (by decide)).trans k4
      have k6 : w68 6 = some (.inr (2, [.ref (B + 7), .ref (B + 8)])) := (fr71 _ (by decide)).trans k6
      have k7 : w68 7 = some (kl_aI G 24 T) := (fr71 _ (by decide)).trans k7
      have k8 : w68 8 = some (kl_aI G 96 C) := (fr71 _ (by decide)).trans k8
      have k12 : w68 12 = some (kl_aR G 6 4 ((fun j => some (B + (14 + 3 * j))))) := (fr71 _ (by decide)).trans k12
      have k14 : w68 14 = some (.inr (2, [.ref (B + 15), .ref (B + 16)])) := (fr71 _ (by decide)).trans k14
      have k15 : w68 15 = some (kl_aI G 24 ((mT 0))) := (fr71 _ (by decide)).trans k15
      have k16 : w68 16 = some (kl_aI G 96 ((mC 0))) := (fr71 _ (by decide)).trans k16
      have k17 : w68 17 = some (.inr (2, [.ref (B + 18), .ref (B + 19)])) := (fr71 _ (by decide)).trans k17
      have k18 : w68 18 = some (kl_aI G 24 ((mT 1))) := (fr71 _ (by decide)).trans k18
      have k19 : w68 19 = some (kl_aI G 96 ((mC 1))) := (fr71 _ (by decide)).trans k19
      have k20 : w68 20 = some (.inr (2, [.ref (B + 21), .ref (B + 22)])) := (fr71 _ (by decide)).trans k20
      have k21 : w68 21 = some (kl_aI G 24 ((mT 2))) := (fr71 _ (by decide)).trans k21
      have k22 : w68 22 = some (kl_aI G 96 ((mC 2))) := (fr71 _ (by decide)).trans k22
      have k23 : w68 23 = some (.inr (2, [.ref (B + 24), .ref (B + 25)])) := (fr71 _ (by decide)).trans k23
      have k24 : w68 24 = some (kl_aI G 24 ((mT 3))) := (fr71 _ (by decide)).trans k24
      have k25 : w68 25 = some (kl_aI G 96 ((mC 3))) := (fr71 _ (by decide)).trans k25
      have frm : ∀ j : Nat, j < 48 → j ≠ 0 → j ≠ 7 → j ≠ 8 → w68 j = w j := fun j hj k0 k1 k2 => (fr71 j hj).trans (frm j hj k0 k1 k2)
      refine lv_istore_n (lv' := [(2, .int r70), (1, .ref (B + 23)), (0, .ref (B + 0))]) hx hb dX4_back_32 rfl hl (by decide) rfl (fun ls hl => ?_)
      refine lv_aload_n hx hb dX4_back_33 rfl (lv_at hl 2 rfl) ?_
      refine lv_iload_n hx hb dX4_back_34 rfl (lv_at hl 0 rfl) ?_
      refine lv_if_eq (tgt := 42) hx hb dX4_back_35 (by decide) (fun c35 => ?_) (fun c35 => ?_)
      · refine lv_iconst (v := nI 0) hx hb dX4_back_42 (by decide) ?_
        refine lv_iload_n hx hb dX4_back_43 rfl (lv_at hl 0 rfl) ?_
        refine klx_cVv (C := RX4) (i := 0) (As := [.int (nI 0), .int r70]) (rest := []) ⟨hx, hb, hml, hown, hts⟩ (c_X4_refuseIf l hst G B _ (nI 0) r70 k0 (kl_b.f (P := False) not_false)) (cwV 2 hts gX4_back_X4_refuseIf rfl rfl rfl (by decide +kernel) ⟨Nat.le_of_ble_eq_true rfl, Nat.le_of_ble_eq_true rfl⟩) hK hZ hP k0 rfl rfl hl.1 rfl (Nat.le_of_ble_eq_true rfl) dX4_back_44 ⟨Nat.le_of_ble_eq_true rfl, Nat.le_of_ble_eq_true rfl⟩ (fun _ _ _ _ _ _ hpx _ _ _ _ => hpx.2.1.elim) (fun w72 H locs q73 hP => ?_)
        obtain ⟨rfl, ok75⟩ := q73
        refine lv_aload_n hx hb dX4_back_47 rfl (lv_at hl 2 rfl) ?_
        refine kl_get (C := RX4) (T := TX4) (N := 16) (ci := 4) hx hb hts hinX4 hown hK hP k0 rfl 10 (by decide) (hts (.fieldLink RX4 53 "KinLedger" "rows" "LKinLedger$Rows;") (by decide +kernel)) (fun _ h9 => h9) rfl dX4_back_48 ?_
        refine lv_aload_n hx hb dX4_back_51 rfl (lv_at hl 1 rfl) ?_
        refine kl_cVv (C := RX2) (i := 6) (As := [.ref (B + 23)]) (rest := []) ⟨hx, hb, hml, hown, hts⟩ (c_X2_become l G B _ 6 7 8 23 24 25 k6 k7 k8 k23 k24 k25 (by omega)) (cwV 1 hts gX4_back_X2_become rfl rfl rfl (by decide +kernel) ⟨Nat.le_of_ble_eq_true rfl, Nat.le_of_ble_eq_true rfl⟩) hK hP k6 rfl rfl hl.1 rfl (Nat.le_of_ble_eq_true rfl) dX4_back_52 ⟨Nat.le_of_ble_eq_true rfl, Nat.le_of_ble_eq_true rfl⟩ (fun w76 H locs q77 hP => ?_)
        obtain ⟨f79, f80, fr81⟩ := q77
        have k0 : w76 0 = some (.inr (4, [.ref (B + 1), .int (nI nT), .ref (B + 2), .int (nI nL), .ref (B + 3), .int (nI nS), .ref (B + 4), .int (nI nC), .ref (B + 5), .int (nI nW), .ref (B + 6), .ref (B + 9), .ref (B + 12), .int (nI 4), .ref (B + 13), .int rs])) := (fr81 _ (by decide) (by decide)).trans k0
        have k2 : w76 2 = some (kl_aR G 3 6 lf) := (fr81 _ (by decide) (by decide)).trans k2
        have k3 : w76 3 = some (kl_aR G 4 4 sf) := (fr81 _ (by decide) (by decide)).trans k3
        have k4 : w76 4 = some (kl_aR G 5 4 cf) := (fr81 _ (by decide) (by decide)).trans k4
        have k6 : w76 6 = some (.inr (2, [.ref (B + 7), .ref (B + 8)])) := (fr81 _ (by decide) (by decide)).trans k6
        have k12 : w76 12 = some (kl_aR G 6 4 ((fun j => some (B + (14 + 3 * j))))) := (fr81 _ (by decide) (by decide)).trans k12
        have k14 : w76 14 = some (.inr (2, [.ref (B + 15), .ref (B + 16)])) := (fr81 _ (by decide) (by decide)).trans k14
        have k15 : w76 15 = some (kl_aI G 24 ((mT 0))) := (fr81 _ (by decide) (by decide)).trans k15
        have k16 : w76 16 = some (kl_aI G 96 ((mC 0))) := (fr81 _ (by decide) (by decide)).trans k16
        have k17 : w76 17 = some (.inr (2, [.ref (B + 18), .ref (B + 19)])) := (fr81 _ (by decide) (by decide)).trans k17
        have k18 : w76 18 = some (kl_aI G 24 ((mT 1))) := (fr81 _ (by decide) (by decide)).trans k18
        have k19 : w76 19 = some (kl_aI G 96 ((mC 1))) := (fr81 _ (by decide) (by decide)).trans k19
        have k20 : w76 20 = some (.inr (2, [.ref (B + 21), .ref (B + 22)])) := (fr81 _ (by decide) (by decide)).trans k20
        have k21 : w76 21 = some (kl_aI G 24 ((mT 2))) := (fr81 _ (by decide) (by decide)).trans k21
        have k22 : w76 22 = some (kl_aI G 96 ((mC 2))) := (fr81 _ (by decide) (by decide)).trans k22
        have k23 : w76 23 = some (.inr (2, [.ref (B + 24), .ref (B + 25)])) := (fr81 _ (by decide) (by decide)).trans k23
        have k24 : w76 24 = some (kl_aI G 24 ((mT 3))) := (fr81 _ (by decide) (by decide)).trans k24
        have k25 : w76 25 = some (kl_aI G 96 ((mC 3))) := (fr81 _ (by decide) (by decide)).trans k25
        have hru := kl_RU.mv hru (fun j hj => fr81 j (by omega) (by omega))
        have frm : ∀ j : Nat, j < 48 → j ≠ 0 → j ≠ 7 → j ≠ 8 → w76 j = w j := fun j hj k0 k1 k2 => (fr81 j k1 k2).trans (frm j hj k0 k1 k2)
        refine lv_aload_n hx hb dX4_back_55 rfl (lv_at hl 2 rfl) ?_
        refine lv_dup hx hb dX4_back_56 rfl ?_
        refine kl_get (C := RX4) (T := TX4) (N := 16) (ci := 4) hx hb hts hinX4 hown hK hP k0 rfl 13 (by decide) (hts (.fieldLink RX4 64 "KinLedger" "rememberedCount" "I") (by decide +kernel)) (fun _ h9 => h9) rfl dX4_back_57 ?_
        refine lv_iconst (v := nI 1) hx hb dX4_back_60 (by decide) ?_
        refine lv_isub hx hb dX4_back_61 ?_
        refine kl_top (z := nI 3) (by first | exact pk_sub (by omega) | (rw [pk_sub (by omega)]; congr 1; omega)) ?_
        refine kl_put (C := RX4) (T := TX4) (N := 16) (ci := 4) (v := .int (nI 3)) (ty := .int) hx hb hts hinX4 tyX4 tyX4_ok nmX4 hown hK hP k0 rfl 13 (by decide) (hts (.fieldLink RX4 64 "KinLedger" "rememberedCount" "I") (by decide +kernel)) (fun _ h9 => h9) rfl (by decide +kernel) rfl rfl (Nat.le_of_ble_eq_true rfl) dX4_back_62 (fun w82 H locs f83 fr84 hzw82 hP => ?_)
        have f83 : w82 0 = some (.inr (4, [.ref (B + 1), .int (nI nT), .ref (B + 2), .int (nI nL), .ref (B + 3), .int (nI nS), .ref (B + 4), .int (nI nC), .ref (B + 5), .int (nI nW), .ref (B + 6), .ref (B + 9), .ref (B + 12), .int (nI 3), .ref (B + 13), .int rs])) := f83
        have k2 : w82 2 = some (kl_aR G 3 6 lf) := (fr84 _ (by decide)).trans k2
        have k3 : w82 3 = some (kl_aR G 4 4 sf) := (fr84 _ (by decide)).trans k3
        have k4 : w82 4 = some (kl_aR G 5 4 cf) := (fr84 _ (by decide)).trans k4
        have k6 : w82 6 = some (.inr (2, [.ref (B + 7), .ref (B + 8)])) := (fr84 _ (by decide)).trans k6
        have f79 : w82 7 = some (kl_aI G 24 ((mT 3))) := (fr84 _ (by decide)).trans f79
        have f80 : w82 8 = some (kl_aI G 96 ((mC 3))) := (fr84 _ (by decide)).trans f80
        have k12 : w82 12 = some (kl_aR G 6 4 ((fun j => some (B + (14 + 3 * j))))) := (fr84 _ (by decide)).trans k12
        have k14 : w82 14 = some (.inr (2, [.ref (B + 15), .ref (B + 16)])) := (fr84 _ (by decide)).trans k14
        have k15 : w82 15 = some (kl_aI G 24 ((mT 0))) := (fr84 _ (by decide)).trans k15
        have k16 : w82 16 = some (kl_aI G 96 ((mC 0))) := (fr84 _ (by decide)).trans k16
        have k17 : w82 17 = some (.inr (2, [.ref (B + 18), .ref (B + 19)])) := (fr84 _ (by decide)).trans k17
        have k18 : w82 18 = some (kl_aI G 24 ((mT 1))) := (fr84 _ (by decide)).trans k18
        have k19 : w82 19 = some (kl_aI G 96 ((mC 1))) := (fr84 _ (by decide)).trans k19
        have k20 : w82 20 = some (.inr (2, [.ref (B + 21), .ref (B + 22)])) := (fr84 _ (by decide)).trans k20
        have k21 : w82 21 = some (kl_aI G 24 ((mT 2))) := (fr84 _ (by decide)).trans k21
        have k22 : w82 22 = some (kl_aI G 96 ((mC 2))) := (fr84 _ (by decide)).trans k22
        have k23 : w82 23 = some (.inr (2, [.ref (B + 24), .ref (B + 25)])) := (fr84 _ (by decide)).trans k23
        have k24 : w82 24 = some (kl_aI G 24 ((mT 3))) := (fr84 _ (by decide)).trans k24
        have k25 : w82 25 = some (kl_aI G 96 ((mC 3))) := (fr84 _ (by decide)).trans k25
        have hru := kl_RU.mv hru (fun j hj => fr84 j (by omega))
        have frm : ∀ j : Nat, j < 48 → j ≠ 0 → j ≠ 7 → j ≠ 8 → w82 j = w j := fun j hj k0 k1 k2 => (fr84 j k0).trans (frm j hj k0 k1 k2)
        refine lv_aload_n hx hb dX4_back_65 rfl (lv_at hl 2 rfl) ?_
        refine kl_get (C := RX4) (T := TX4) (N := 16) (ci := 4) hx hb hts hinX4 hown hK hP f83 rfl 13 (by decide) (hts (.fieldLink RX4 64 "KinLedger" "rememberedCount" "I") (by decide +kernel)) (fun _ h9 => h9) rfl dX4_back_66 ?_
        refine W.widen (k := 2) (n := 12) (by omega) (by omega) ?_
        refine vx_ret ?_
        exact kl_iret hx hb hr hlocks hP ⟨3, rfl, (c35.trans nI_0.symm) ▸ hwhy, rfl, f83, hru, f79, f80, frm⟩ dX4_back_69
      · refine lv_iconst (v := nI 1) hx hb dX4_back_38 (by decide) ?_
        refine lv_goto (tgt := 43) hx hb dX4_back_39 (by decide) ?_
        refine lv_iload_n hx hb dX4_back_43 rfl (lv_at hl 0 rfl) ?_
        refine klx_cVv (C := RX4) (i := 0) (As := [.int (nI 1), .int r70]) (rest := []) ⟨hx, hb, hml, hown, hts⟩ (c_X4_refuseIf l hst G B _ (nI 1) r70 k0 (kl_b.t (P := True) trivial)) (cwV 2 hts gX4_back_X4_refuseIf rfl rfl rfl (by decide +kernel) ⟨Nat.le_of_ble_eq_true rfl, Nat.le_of_ble_eq_true rfl⟩) hK hZ hP k0 rfl rfl hl.1 rfl (Nat.le_of_ble_eq_true rfl) dX4_back_44 ⟨Nat.le_of_ble_eq_true rfl, Nat.le_of_ble_eq_true rfl⟩ (fun E ce q9 w9 H locs hpx hP h9 hv9 hc9 => kl_out hout hlocks hP (by obtain ⟨hE, -, h09, hfr9⟩ := hpx; exact Or.inr ⟨hE, 3, _, rfl, c35, hwhy, h09, kl_RU.mv hru (fun j hj => hfr9 j (by omega)), (hfr9 7 (by decide)).trans k7, (hfr9 8 (by decide)).trans k8, fun j hj k0 k1 k2 => (hfr9 j k0).trans (frm j hj k0 k1 k2)⟩) h9 hv9 hc9 (Nat.le_of_ble_eq_true rfl) (Nat.le_of_ble_eq_true rfl)) (fun w85 H locs q86 hP => ?_)
        exact (q86.2 trivial).elim
