abbrev rm_X5_shift : Room := { frames := 5, cells := 0, slots := 0, locals := 113 }
set_option maxHeartbeats 4000000 in
set_option maxRecDepth 100000 in
theorem c_X5_shift (l : Launch) (G : kl_G) (B : Nat) (w : kl_M) {nT nL nS nC nW nM n on : Nat} {ec rs hi : Int32} {cn : Nat → Nat} {O D oO oD gn pl : Nat → Int32} {lch : Nat → Int32} {lco : Nat → Nat} {lpa lwy stb : Nat → Int32} {sco : Nat → Nat} {ctb : Nat → Int32} {cln cw : Nat → Nat} (ccol : Nat → Nat) (t c b9 : Int32) (q26 : w 26 = some (.inr (5, [.int ec, .int rs, .int (nI nT), .ref (B + 27), .int (nI n), .ref (B + 28), .ref (B + 29), .int (nI on), .ref (B + 30), .ref (B + 31), .ref (B + 32), .int (nI nL), .ref (B + 33), .ref (B + 34), .ref (B + 35), .ref (B + 36), .int (nI nS), .ref (B + 37), .ref (B + 38), .int (nI nC), .ref (B + 39), .ref (B + 40), .ref (B + 41), .int (nI nW), .ref (B + 42), .int hi, .ref (B + 43), .int (nI nM), .ref (B + 44), .ref (B + 45), .ref (B + 46)]))) (q27 : w 27 = some (kl_aI G 4 ((fun t => nI (cn t))))) (q28 : w 28 = some (kl_aI G 24 O)) (q29 : w 29 = some (kl_aI G 96 D)) (q30 : w 30 = some (kl_aI G 24 oO)) (q31 : w 31 = some (kl_aI G 96 oD)) (q32 : w 32 = some (kl_aZ G 24 gn)) (q33 : w 33 = some (kl_aI G 7 lch)) (q34 : w 34 = some (kl_aI G 7 ((fun t => nI (lco t))))) (q35 : w 35 = some (kl_aI G 7 lpa)) (q36 : w 36 = some (kl_aI G 7 lwy)) (q37 : w 37 = some (kl_aI G 5 stb)) (q38 : w 38 = some (kl_aI G 5 ((fun t => nI (sco t))))) (q39 : w 39 = some (kl_aI G 5 ctb)) (q40 : w 40 = some (kl_aI G 5 ((fun t => nI (cln t))))) (q41 : w 41 = some (kl_aI G 50 ((fun t => nI (cw t))))) (q43 : w 43 = some (kl_aI G 12 pl)) (hmn : nT ≤ 4 ∧ nL ≤ 6 ∧ nS ≤ 4 ∧ nC ≤ 4 ∧ n ≤ 24) (hrp : (md_RP nL lch lco lpa lwy nS stb sco nC ctb cln cw ccol)) (hcn4 : ∀ j, j < nT → cn j ≤ 4) : Met l yX5_shift wsX5_shift rm_X5_shift (kl_Pc G B w [.ref (B + 26), .int t, .int c, .int b9]) (kl_Qi G B (fun r w1 => (¬ (mt_col t c nT cn ∧ c ≠ 0) ∧ w1 26 = some (.inr (5, [.int (nI 1), .int rs, .int (nI nT), .ref (B + 27), .int (nI n), .ref (B + 28), .ref (B + 29), .int (nI on), .ref (B + 30), .ref (B + 31), .ref (B + 32), .int (nI nL), .ref (B + 33), .ref (B + 34), .ref (B + 35), .ref (B + 36), .int (nI nS), .ref (B + 37), .ref (B + 38), .int (nI nC), .ref (B + 39), .ref (B + 40), .ref (B + 41), .int (nI nW), .ref (B + 42), .int hi, .ref (B + 43), .int (nI nM), .ref (B + 44), .ref (B + 45), .ref (B + 46)])) ∧ md_sm G w1 n O D ∧ ∀ j : Nat, j ≠ 26 → j ≠ 28 → j ≠ 29 → j ≠ 30 → j ≠ 31 → j ≠ 32 → j ≠ 43 → w1 j = w j) ∨ ((mt_col t c nT cn ∧ c ≠ 0) ∧ ∃ q, 0 < q ∧ q < 4 ∧ c = nI q ∧ r = nI (mt_ct (fun a => md_T n O a = t) 24) ∧ md_sw 0 (mt_why (md_T n O) (mt_shf (md_T n O) D t q b9) nT nS stb sco nL lch lco lpa nC ctb (fun j i => cw (10 * j + i)) cln) (nI 0) ∧ (∃ h2 on2, w1 26 = some (.inr (5, [.int (nI 0), .int rs, .int (nI nT), .ref (B + 27), .int (nI n), .ref (B + 28), .ref (B + 29), .int (nI on2), .ref (B + 30), .ref (B + 31), .ref (B + 32), .int (nI nL), .ref (B + 33), .ref (B + 34), .ref (B + 35), .ref (B + 36), .int (nI nS), .ref (B + 37), .ref (B + 38), .int (nI nC), .ref (B + 39), .ref (B + 40), .ref (B + 41), .int (nI nW), .ref (B + 42), .int h2, .ref (B + 43), .int (nI nM), .ref (B + 44), .ref (B + 45), .ref (B + 46)]))) ∧ w1 28 = some (kl_aI G 24 O) ∧ w1 29 = some (kl_aI G 96 (mt_shf (md_T n O) D t q b9)) ∧ md_jk G w1 ∧ ∀ j : Nat, j ≠ 26 → j ≠ 28 → j ≠ 29 → j ≠ 30 → j ≠ 31 → j ≠ 32 → j ≠ 43 → w1 j = w j) ∨ ((mt_col t c nT cn ∧ c ≠ 0) ∧ ∃ q, 0 < q ∧ q < 4 ∧ c = nI q ∧ ∃ y2, y2 ≠ 0 ∧ md_sw 0 (mt_why (md_T n O) (mt_shf (md_T n O) D t q b9) nT nS stb sco nL lch lco lpa nC ctb (fun j i => cw (10 * j + i)) cln) y2 ∧ (∃ h2 on2, w1 26 = some (.inr (5, [.int (nI 2), .int y2, .int (nI nT), .ref (B + 27), .int (nI n), .ref (B + 28), .ref (B + 29), .int (nI on2), .ref (B + 30), .ref (B + 31), .ref (B + 32), .int (nI nL), .ref (B + 33), .ref (B + 34), .ref (B + 35), .ref (B + 36), .int (nI nS), .ref (B + 37), .ref (B + 38), .int (nI nC), .ref (B + 39), .ref (B + 40), .ref (B + 41), .int (nI nW), .ref (B + 42), .int h2, .ref (B + 43), .int (nI nM), .ref (B + 44), .ref (B + 45), .ref (B + 46)]))) ∧ md_sm G w1 n O D ∧ ∀ j : Nat, j ≠ 26 → j ≠ 28 → j ≠ 29 → j ≠ 30 → j ≠ 31 → j ≠ 32 → j ≠ 43 → w1 j = w j))) 0 0 (kl_fr B) := by
  refine Met.ofW (cc := cX5_shift) (maxL := 6) (ret := (some .int)) (by decide) rfl ?_
  intro pg e s m args below meth cd s₁ Bd hml hv
  obtain ⟨rfl, hP0, hK⟩ := hv
  have hx := Bd.exec
  have hb := Bd.bytes
  have hr := Bd.returns
  have hts := atoms_spec (ws := wsX5_shift) Bd.pre
  have hown : s.vm.findClass RX5 = some m.cls := findClass_of_methodNamed Bd.named
  have hlocks := Bd.notSynchronized
  have hinX5 : ∀ w ∈ u_ws RX5 TX5 31, w ∈ wsX5_shift := by decide +kernel
  have hP := kl_S.rf hP0
  have hl := lv_entry ([.ref (B + 26), .int t, .int c, .int b9]) (n := 6) (Nat.le_of_ble_eq_true rfl)
  rw [lg_entry_eq]
  generalize (lg_sl ([.ref (B + 26), .int t, .int c, .int b9]) ++ List.replicate (6 - (lg_sl ([.ref (B + 26), .int t, .int c, .int b9])).length) Slot.unset).toArray = ls at hl ⊢
  have hl : lv_has ls 6 [(0, .ref (B + 26)), (1, .int t), (2, .int c), (3, .int b9)] := hl
  have frm : ∀ j : Nat, j ≠ 26 → j ≠ 28 → j ≠ 29 → j ≠ 30 → j ≠ 31 → j ≠ 32 → j ≠ 43 → w j = w j := fun j _ _ _ _ _ _ _ => rfl
  obtain ⟨m1, m2, m3, m4, m5⟩ := hmn
  have hrl := md_RP.hrl hrp
  refine lv_aload_n hx hb dX5_shift_0 rfl (lv_at hl 0 rfl) ?_
  refine lv_aload_n hx hb dX5_shift_1 rfl (lv_at hl 0 rfl) ?_
  refine lv_iload_n hx hb dX5_shift_2 rfl (lv_at hl 1 rfl) ?_
  refine lv_iload_n hx hb dX5_shift_3 rfl (lv_at hl 2 rfl) ?_
  refine kl_cVi (C := RX5) (i := 26) (As := [.int t, .int c]) (rest := [.ref (B + 26)]) ⟨hx, hb, hml, hown, hts⟩ (c_X5_isColumn l G B _ t c q26 q27 (by omega) hcn4) (cwV 2 hts gX5_shift_X5_isColumn rfl rfl rfl (by decide +kernel) ⟨Nat.le_of_ble_eq_true rfl, Nat.le_of_ble_eq_true rfl⟩) hK hP q26 rfl rfl hl.1 rfl (Nat.le_of_ble_eq_true rfl) dX5_shift_4 ⟨Nat.le_of_ble_eq_true rfl, Nat.le_of_ble_eq_true rfl⟩ (fun r3 w1 H locs q2 hP => ?_)
  obtain ⟨rfl, hv4⟩ := q2
  refine kl_ifeq (tgt := 18) hx hb hv4 dX5_shift_7 (by decide) (fun c7 => ?_) (fun c7 => ?_)
  · refine lv_iconst (v := nI 1) hx hb dX5_shift_18 (by decide) ?_
    refine kl_put (C := RX5) (T := TX5) (N := 31) (ci := 5) (v := .int (nI 1)) (ty := .int) hx hb hts hinX5 tyX5 tyX5_ok nmX5 hown hK hP q26 rfl 0 (by decide) (hts (.fieldLink RX5 71 "KinLedgerModel" "code" "I") (by decide +kernel)) (fun _ h9 => h9) rfl (by decide +kernel) rfl rfl (Nat.le_of_ble_eq_true rfl) dX5_shift_19 (fun w5 H locs f6 fr7 hzw5 hP => ?_)
    have f6 : w5 26 = some (.inr (5, [.int (nI 1), .int rs, .int (nI nT), .ref (B + 27), .int (nI n), .ref (B + 28), .ref (B + 29), .int (nI on), .ref (B + 30), .ref (B + 31), .ref (B + 32), .int (nI nL), .ref (B + 33), .ref (B + 34), .ref (B + 35), .ref (B + 36), .int (nI nS), .ref (B + 37), .ref (B + 38), .int (nI nC), .ref (B + 39), .ref (B + 40), .ref (B + 41), .int (nI nW), .ref (B + 42), .int hi, .ref (B + 43), .int (nI nM), .ref (B + 44), .ref (B + 45), .ref (B + 46)])) := f6
    have q27 : w5 27 = some (kl_aI G 4 ((fun t => nI (cn t)))) := (fr7 _ (by decide)).trans q27
    have q28 : w5 28 = some (kl_aI G 24 O) := (fr7 _ (by decide)).trans q28
    have q29 : w5 29 = some (kl_aI G 96 D) := (fr7 _ (by decide)).trans q29
    have q30 : w5 30 = some (kl_aI G 24 oO) := (fr7 _ (by decide)).trans q30
    have q31 : w5 31 = some (kl_aI G 96 oD) := (fr7 _ (by decide)).trans q31
    have q32 : w5 32 = some (kl_aZ G 24 gn) := (fr7 _ (by decide)).trans q32
    have q33 : w5 33 = some (kl_aI G 7 lch) := (fr7 _ (by decide)).trans q33
    have q34 : w5 34 = some (kl_aI G 7 ((fun t => nI (lco t)))) := (fr7 _ (by decide)).trans q34
    have q35 : w5 35 = some (kl_aI G 7 lpa) := (fr7 _ (by decide)).trans q35
    have q36 : w5 36 = some (kl_aI G 7 lwy) := (fr7 _ (by decide)).trans q36
    have q37 : w5 37 = some (kl_aI G 5 stb) := (fr7 _ (by decide)).trans q37
    have q38 : w5 38 = some (kl_aI G 5 ((fun t => nI (sco t)))) := (fr7 _ (by decide)).trans q38
    have q39 : w5 39 = some (kl_aI G 5 ctb) := (fr7 _ (by decide)).trans q39
    have q40 : w5 40 = some (kl_aI G 5 ((fun t => nI (cln t)))) := (fr7 _ (by decide)).trans q40
    have q41 : w5 41 = some (kl_aI G 50 ((fun t => nI (cw t)))) := (fr7 _ (by decide)).trans q41
    have q43 : w5 43 = some (kl_aI G 12 pl) := (fr7 _ (by decide)).trans q43
    have frm : ∀ j : Nat, j ≠ 26 → j ≠ 28 → j ≠ 29 → j ≠ 30 → j ≠ 31 → j ≠ 32 → j ≠ 43 → w5 j = w j := fun j k0 k1 k2 k3 k4 k5 k6 => (fr7 j k0).trans (frm j k0 k1 k2 k3 k4 k5 k6)
    refine lv_aload_n hx hb dX5_shift_22 rfl (lv_at hl 0 rfl) ?_
    refine kl_get (C := RX5) (T := TX5) (N := 31) (ci := 5) hx hb hts hinX5 hown hK hP f6 rfl 0 (by decide) (hts (.fieldLink RX5 71 "KinLedgerModel" "code" "I") (by decide +kernel)) (fun _ h9 => h9) rfl dX5_shift_23 ?_
    refine kl_z_le (tgt := 31) hx hb (by omega) dX5_shift_26 (by decide) (fun c26 => absurd c26 (by omega)) (fun c26 => ?_)
    refine lv_iconst (v := nI 0) hx hb dX5_shift_29 (by decide) ?_
    exact kl_iret hx hb hr hlocks hP (Or.inl (⟨fun z => c7 z.1, f6, ⟨⟨_, _, q28, q29, fun _ _ => rfl, fun _ _ => rfl⟩, ⟨_, _, _, _, q30, q31, q32, q43⟩⟩, frm⟩)) dX5_shift_30
  · have hok := c7
    obtain ⟨jj, q, hjj, htt, hq4, hcq⟩ := c7
    have hq5 := hcn4 jj hjj
    have htn : t ≠ -1 := by rw [htt]; exact kl_nm1 (by omega)
    rw [hcq] at hl
    refine lv_iload_n hx hb dX5_shift_10 rfl (lv_at hl 2 rfl) ?_
    refine kl_z_le (tgt := 18) hx hb (by omega) dX5_shift_11 (by decide) (fun c11 => ?_) (fun c11 => ?_)
    · refine lv_iconst (v := nI 1) hx hb dX5_shift_18 (by decide) ?_
      refine kl_put (C := RX5) (T := TX5) (N := 31) (ci := 5) (v := .int (nI 1)) (ty := .int) hx hb hts hinX5 tyX5 tyX5_ok nmX5 hown hK hP q26 rfl 0 (by decide) (hts (.fieldLink RX5 71 "KinLedgerModel" "code" "I") (by decide +kernel)) (fun _ h9 => h9) rfl (by decide +kernel) rfl rfl (Nat.le_of_ble_eq_true rfl) dX5_shift_19 (fun w8 H locs f9 fr10 hzw8 hP => ?_)
      have f9 : w8 26 = some (.inr (5, [.int (nI 1), .int rs, .int (nI nT), .ref (B + 27), .int (nI n), .ref (B + 28), .ref (B + 29), .int (nI on), .ref (B + 30), .ref (B + 31), .ref (B + 32), .int (nI nL), .ref (B + 33), .ref (B + 34), .ref (B + 35), .ref (B + 36), .int (nI nS), .ref (B + 37), .ref (B + 38), .int (nI nC), .ref (B + 39), .ref (B + 40), .ref (B + 41), .int (nI nW), .ref (B + 42), .int hi, .ref (B + 43), .int (nI nM), .ref (B + 44), .ref (B + 45), .ref (B + 46)])) := f9
      have q27 : w8 27 = some (kl_aI G 4 ((fun t => nI (cn t)))) := (fr10 _ (by decide)).trans q27
      have q28 : w8 28 = some (kl_aI G 24 O) := (fr10 _ (by decide)).trans q28
      have q29 : w8 29 = some (kl_aI G 96 D) := (fr10 _ (by decide)).trans q29
      have q30 : w8 30 = some (kl_aI G 24 oO) := (fr10 _ (by decide)).trans q30
      have q31 : w8 31 = some (kl_aI G 96 oD) := (fr10 _ (by decide)).trans q31
      have q32 : w8 32 = some (kl_aZ G 24 gn) := (fr10 _ (by decide)).trans q32
      have q33 : w8 33 = some (kl_aI G 7 lch) := (fr10 _ (by decide)).trans q33
      have q34 : w8 34 = some (kl_aI G 7 ((fun t => nI (lco t)))) := (fr10 _ (by decide)).trans q34
      have q35 : w8 35 = some (kl_aI G 7 lpa) := (fr10 _ (by decide)).trans q35
      have q36 : w8 36 = some (kl_aI G 7 lwy) := (fr10 _ (by decide)).trans q36
      have q37 : w8 37 = some (kl_aI G 5 stb) := (fr10 _ (by decide)).trans q37
      have q38 : w8 38 = some (kl_aI G 5 ((fun t => nI (sco t)))) := (fr10 _ (by decide)).trans q38
      have q39 : w8 39 = some (kl_aI G 5 ctb) := (fr10 _ (by decide)).trans q39
      have q40 : w8 40 = some (kl_aI G 5 ((fun t => nI (cln t)))) := (fr10 _ (by decide)).trans q40
      have q41 : w8 41 = some (kl_aI G 50 ((fun t => nI (cw t)))) := (fr10 _ (by decide)).trans q41
      have q43 : w8 43 = some (kl_aI G 12 pl) := (fr10 _ (by decide)).trans q43
      have frm : ∀ j : Nat, j ≠ 26 → j ≠ 28 → j ≠ 29 → j ≠ 30 → j ≠ 31 → j ≠ 32 → j ≠ 43 → w8 j = w j := fun j k0 k1 k2 k3 k4 k5 k6 => (fr10 j k0).trans (frm j k0 k1 k2 k3 k4 k5 k6)
      refine lv_aload_n hx hb dX5_shift_22 rfl (lv_at hl 0 rfl) ?_
      refine kl_get (C := RX5) (T := TX5) (N := 31) (ci := 5) hx hb hts hinX5 hown hK hP f9 rfl 0 (by decide) (hts (.fieldLink RX5 71 "KinLedgerModel" "code" "I") (by decide +kernel)) (fun _ h9 => h9) rfl dX5_shift_23 ?_
      refine kl_z_le (tgt := 31) hx hb (by omega) dX5_shift_26 (by decide) (fun c26 => absurd c26 (by omega)) (fun c26 => ?_)
      refine lv_iconst (v := nI 0) hx hb dX5_shift_29 (by decide) ?_
      exact kl_iret hx hb hr hlocks hP (Or.inl (⟨fun z => z.2 (by rw [hcq, c11]; rfl), f9, ⟨⟨_, _, q28, q29, fun _ _ => rfl, fun _ _ => rfl⟩, ⟨_, _, _, _, q30, q31, q32, q43⟩⟩, frm⟩)) dX5_shift_30
    · refine lv_iconst (v := nI 0) hx hb dX5_shift_14 (by decide) ?_
      refine lv_goto (tgt := 19) hx hb dX5_shift_15 (by decide) ?_
      refine kl_put (C := RX5) (T := TX5) (N := 31) (ci := 5) (v := .int (nI 0)) (ty := .int) hx hb hts hinX5 tyX5 tyX5_ok nmX5 hown hK hP q26 rfl 0 (by decide) (hts (.fieldLink RX5 71 "KinLedgerModel" "code" "I") (by decide +kernel)) (fun _ h9 => h9) rfl (by decide +kernel) rfl rfl (Nat.le_of_ble_eq_true rfl) dX5_shift_19 (fun w11 H locs f12 fr13 hzw11 hP => ?_)
      have f12 : w11 26 = some (.inr (5, [.int (nI 0), .int rs, .int (nI nT), .ref (B + 27), .int (nI n), .ref (B + 28), .ref (B + 29), .int (nI on), .ref (B + 30), .ref (B + 31), .ref (B + 32), .int (nI nL), .ref (B + 33), .ref (B + 34), .ref (B + 35), .ref (B + 36), .int (nI nS), .ref (B + 37), .ref (B + 38), .int (nI nC), .ref (B + 39), .ref (B + 40), .ref (B + 41), .int (nI nW), .ref (B + 42), .int hi, .ref (B + 43), .int (nI nM), .ref (B + 44), .ref (B + 45), .ref (B + 46)])) := f12
      have q27 : w11 27 = some (kl_aI G 4 ((fun t => nI (cn t)))) := (fr13 _ (by decide)).trans q27
      have q28 : w11 28 = some (kl_aI G 24 O) := (fr13 _ (by decide)).trans q28
      have q29 : w11 29 = some (kl_aI G 96 D) := (fr13 _ (by decide)).trans q29
      have q30 : w11 30 = some (kl_aI G 24 oO) := (fr13 _ (by decide)).trans q30
      have q31 : w11 31 = some (kl_aI G 96 oD) := (fr13 _ (by decide)).trans q31
      have q32 : w11 32 = some (kl_aZ G 24 gn) := (fr13 _ (by decide)).trans q32
      have q33 : w11 33 = some (kl_aI G 7 lch) := (fr13 _ (by decide)).trans q33
      have q34 : w11 34 = some (kl_aI G 7 ((fun t => nI (lco t)))) := (fr13 _ (by decide)).trans q34
      have q35 : w11 35 = some (kl_aI G 7 lpa) := (fr13 _ (by decide)).trans q35
      have q36 : w11 36 = some (kl_aI G 7 lwy) := (fr13 _ (by decide)).trans q36
      have q37 : w11 37 = some (kl_aI G 5 stb) := (fr13 _ (by decide)).trans q37
      have q38 : w11 38 = some (kl_aI G 5 ((fun t => nI (sco t)))) := (fr13 _ (by decide)).trans q38
      have q39 : w11 39 = some (kl_aI G 5 ctb) := (fr13 _ (by decide)).trans q39
      have q40 : w11 40 = some (kl_aI G 5 ((fun t => nI (cln t)))) := (fr13 _ (by decide)).trans q40
      have q41 : w11 41 = some (kl_aI G 50 ((fun t => nI (cw t)))) := (fr13 _ (by decide)).trans q41
      have q43 : w11 43 = some (kl_aI G 12 pl) := (fr13 _ (by decide)).trans q43
      have frm : ∀ j : Nat, j ≠ 26 → j ≠ 28 → j ≠ 29 → j ≠ 30 → j ≠ 31 → j ≠ 32 → j ≠ 43 → w11 j = w j := fun j k0 k1 k2 k3 k4 k5 k6 => (fr13 j k0).trans (frm j k0 k1 k2 k3 k4 k5 k6)
      refine lv_aload_n hx hb dX5_shift_22 rfl (lv_at hl 0 rfl) ?_
      refine kl_get (C := RX5) (T := TX5) (N := 31) (ci := 5) hx hb hts hinX5 hown hK hP f12 rfl 0 (by decide) (hts (.fieldLink RX5 71 "KinLedgerModel" "code" "I") (by decide +kernel)) (fun _ h9 => h9) rfl dX5_shift_23 ?_
      refine kl_z_le (tgt := 31) hx hb (by omega) dX5_shift_26 (by decide) (fun c26 => ?_) (fun c26 => absurd c26 (by omega))
      refine lv_aload_n hx hb dX5_shift_31 rfl (lv_at hl 0 rfl) ?_
      refine kl_cVv (C := RX5) (i := 26) (As := []) (rest := []) ⟨hx, hb, hml, hown, hts⟩ (c_X5_remember l G B _ f12 q28 q29 q30 q31 q32 (by omega)) (cwV 0 hts gX5_shift_X5_remember rfl rfl rfl (by decide +kernel) ⟨Nat.le_of_ble_eq_true rfl, Nat.le_of_ble_eq_true rfl⟩) hK hP f12 rfl rfl hl.1 rfl (Nat.le_of_ble_eq_true rfl) dX5_shift_32 ⟨Nat.le_of_ble_eq_true rfl, Nat.le_of_ble_eq_true rfl⟩ (fun w14 H locs q15 hP => ?_)
      obtain ⟨f17, ⟨sO, sD, sG, f18, f19, f20, hsO, hsD⟩, fr21⟩ := q15
      have q27 : w14 27 = some (kl_aI G 4 ((fun t => nI (cn t)))) := (fr21 _ (by decide) (by decide) (by decide) (by decide)).trans q27
      have q28 : w14 28 = some (kl_aI G 24 O) := (fr21 _ (by decide) (by decide) (by decide) (by decide)).trans q28
      have q29 : w14 29 = some (kl_aI G 96 D) := (fr21 _ (by decide) (by decide) (by decide) (by decide)).trans q29
      have q33 : w14 33 = some (kl_aI G 7 lch) := (fr21 _ (by decide) (by decide) (by decide) (by decide)).trans q33
      have q34 : w14 34 = some (kl_aI G 7 ((fun t => nI (lco t)))) := (fr21 _ (by decide) (by decide) (by decide) (by decide)).trans q34
      have q35 : w14 35 = some (kl_aI G 7 lpa) := (fr21 _ (by decide) (by decide) (by decide) (by decide)).trans q35
      have q36 : w14 36 = some (kl_aI G 7 lwy) := (fr21 _ (by decide) (by decide) (by decide) (by decide)).trans q36
      have q37 : w14 37 = some (kl_aI G 5 stb) := (fr21 _ (by decide) (by decide) (by decide) (by decide)).trans q37
      have q38 : w14 38 = some (kl_aI G 5 ((fun t => nI (sco t)))) := (fr21 _ (by decide) (by decide) (by decide) (by decide)).trans q38
      have q39 : w14 39 = some (kl_aI G 5 ctb) := (fr21 _ (by decide) (by decide) (by decide) (by decide)).trans q39
      have q40 : w14 40 = some (kl_aI G 5 ((fun t => nI (cln t)))) := (fr21 _ (by decide) (by decide) (by decide) (by decide)).trans q40
      have q41 : w14 41 = some (kl_aI G 50 ((fun t => nI (cw t)))) := (fr21 _ (by decide) (by decide) (by decide) (by decide)).trans q41
      have q43 : w14 43 = some (kl_aI G 12 pl) := (fr21 _ (by decide) (by decide) (by decide) (by decide)).trans q43
      have f17 : w14 26 = some (.inr (5, [.int (nI 0), .int rs, .int (nI nT), .ref (B + 27), .int (nI n), .ref (B + 28), .ref (B + 29), .int (nI n), .ref (B + 30), .ref (B + 31), .ref (B + 32), .int (nI nL), .ref (B + 33), .ref (B + 34), .ref (B + 35), .ref (B + 36), .int (nI nS), .ref (B + 37), .ref (B + 38), .int (nI nC), .ref (B + 39), .ref (B + 40), .ref (B + 41), .int (nI nW), .ref (B + 42), .int hi, .ref (B + 43), .int (nI nM), .ref (B + 44), .ref (B + 45), .ref (B + 46)])) := f17
      have f18 : w14 30 = some (kl_aI G 24 sO) := f18
      have f19 : w14 31 = some (kl_aI G 96 sD) := f19
      have f20 : w14 32 = some (kl_aZ G 24 sG) := f20
      have frm : ∀ j : Nat, j ≠ 26 → j ≠ 28 → j ≠ 29 → j ≠ 30 → j ≠ 31 → j ≠ 32 → j ≠ 43 → w14 j = w j := fun j k0 k1 k2 k3 k4 k5 k6 => (fr21 j k0 k3 k4 k5).trans (frm j k0 k1 k2 k3 k4 k5 k6)
      refine lv_iconst (v := nI 0) hx hb dX5_shift_35 (by decide) ?_
      refine lv_istore (lv' := [(4, .int (nI 0)), (0, .ref (B + 26)), (1, .int t), (2, .int (nI q)), (3, .int b9)]) hx hb dX5_shift_36 hl (by decide) rfl (fun ls hl => ?_)
      refine lv_iconst (v := nI 0) hx hb dX5_shift_38 (by decide) ?_
      refine lv_istore (lv' := [(5, .int (nI 0)), (4, .int (nI 0)), (0, .ref (B + 26)), (1, .int t), (2, .int (nI q)), (3, .int b9)]) hx hb dX5_shift_39 hl (by decide) rfl (fun ls hl => ?_)
      have lp41 : ∀ (n41 : Nat) (p : Nat) (m9 : Nat) (g : Nat → Int32), n - p < n41 → (p ≤ n) → (m9 = mt_ct (fun a => md_T n O a = t) p) → (mt_shd (md_T n O) D t q b9 p g) → ∀ (w1 : kl_M) (H : Heap) (locs : List Loc), w1 26 = some (.inr (5, [.int (nI 0), .int rs, .int (nI nT), .ref (B + 27), .int (nI n), .ref (B + 28), .ref (B + 29), .int (nI n), .ref (B + 30), .ref (B + 31), .ref (B + 32), .int (nI nL), .ref (B + 33), .ref (B + 34), .ref (B + 35), .ref (B + 36), .int (nI nS), .ref (B + 37), .ref (B + 38), .int (nI nC), .ref (B + 39), .ref (B + 40), .ref (B + 41), .int (nI nW), .ref (B + 42), .int hi, .ref (B + 43), .int (nI nM), .ref (B + 44), .ref (B + 45), .ref (B + 46)])) → w1 27 = some (kl_aI G 4 ((fun t => nI (cn t)))) → w1 28 = some (kl_aI G 24 O) → w1 29 = some (kl_aI G 96 g) → w1 30 = some (kl_aI G 24 sO) → w1 31 = some (kl_aI G 96 sD) → w1 32 = some (kl_aZ G 24 sG) → w1 33 = some (kl_aI G 7 lch) → w1 34 = some (kl_aI G 7 ((fun t => nI (lco t)))) → w1 35 = some (kl_aI G 7 lpa) → w1 36 = some (kl_aI G 7 lwy) → w1 37 = some (kl_aI G 5 stb) → w1 38 = some (kl_aI G 5 ((fun t => nI (sco t)))) → w1 39 = some (kl_aI G 5 ctb) → w1 40 = some (kl_aI G 5 ((fun t => nI (cln t)))) → w1 41 = some (kl_aI G 50 ((fun t => nI (cw t)))) → w1 43 = some (kl_aI G 12 pl) → (∀ j : Nat, j ≠ 26 → j ≠ 28 → j ≠ 29 → j ≠ 30 → j ≠ 31 → j ≠ 32 → j ≠ 43 → w1 j = w j) → kl_S G B w1 s.heap H locs → ∀ ls : Array Slot, lv_has ls 6 [(0, .ref (B + 26)), (1, .int t), (2, .int (nI q)), (3, .int b9), (4, .int (nI m9)), (5, .int (nI p))] → W pg l e rm_X5_shift s m ([.ref (B + 26), .int t, .int c, .int b9] : List Value).toArray below meth cd H locs (0 + 0 + 0) (0 + 0 + 0) (MQ below (kl_Qi G B (fun r w1 => (¬ (mt_col t c nT cn ∧ c ≠ 0) ∧ w1 26 = some (.inr (5, [.int (nI 1), .int rs, .int (nI nT), .ref (B + 27), .int (nI n), .ref (B + 28), .ref (B + 29), .int (nI on), .ref (B + 30), .ref (B + 31), .ref (B + 32), .int (nI nL), .ref (B + 33), .ref (B + 34), .ref (B + 35), .ref (B + 36), .int (nI nS), .ref (B + 37), .ref (B + 38), .int (nI nC), .ref (B + 39), .ref (B + 40), .ref (B + 41), .int (nI nW), .ref (B + 42), .int hi, .ref (B + 43), .int (nI nM), .ref (B + 44), .ref (B + 45), .ref (B + 46)])) ∧ md_sm G w1 n O D ∧ ∀ j : Nat, j ≠ 26 → j ≠ 28 → j ≠ 29 → j ≠ 30 → j ≠ 31 → j ≠ 32 → j ≠ 43 → w1 j = w j) ∨ ((mt_col t c nT cn ∧ c ≠ 0) ∧ ∃ q, 0 < q ∧ q < 4 ∧ c = nI q ∧ r = nI (mt_ct (fun a => md_T n O a = t) 24) ∧ md_sw 0 (mt_why (md_T n O) (mt_shf (md_T n O) D t q b9) nT nS stb sco nL lch lco lpa nC ctb (fun j i => cw (10 * j + i)) cln) (nI 0) ∧ (∃ h2 on2, w1 26 = some (.inr (5, [.int (nI 0), .int rs, .int (nI nT), .ref (B + 27), .int (nI n), .ref (B + 28), .ref (B + 29), .int (nI on2), .ref (B + 30), .ref (B + 31), .ref (B + 32), .int (nI nL), .ref (B + 33), .ref (B + 34), .ref (B + 35), .ref (B + 36), .int (nI nS), .ref (B + 37), .ref (B + 38), .int (nI nC), .ref (B + 39), .ref (B + 40), .ref (B + 41), .int (nI nW), .ref (B + 42), .int h2, .ref (B + 43), .int (nI nM), .ref (B + 44), .ref (B + 45), .ref (B + 46)]))) ∧ w1 28 = some (kl_aI G 24 O) ∧ w1 29 = some (kl_aI G 96 (mt_shf (md_T n O) D t q b9)) ∧ md_jk G w1 ∧ ∀ j : Nat, j ≠ 26 → j ≠ 28 → j ≠ 29 → j ≠ 30 → j ≠ 31 → j ≠ 32 → j ≠ 43 → w1 j = w j) ∨ ((mt_col t c nT cn ∧ c ≠ 0) ∧ ∃ q, 0 < q ∧ q < 4 ∧ c = nI q ∧ ∃ y2, y2 ≠ 0 ∧ md_sw 0 (mt_why (md_T n O) (mt_shf (md_T n O) D t q b9) nT nS stb sco nL lch lco lpa nC ctb (fun j i => cw (10 * j + i)) cln) y2 ∧ (∃ h2 on2, w1 26 = some (.inr (5, [.int (nI 2), .int y2, .int (nI nT), .ref (B + 27), .int (nI n), .ref (B + 28), .ref (B + 29), .int (nI on2), .ref (B + 30), .ref (B + 31), .ref (B + 32), .int (nI nL), .ref (B + 33), .ref (B + 34), .ref (B + 35), .ref (B + 36), .int (nI nS), .ref (B + 37), .ref (B + 38), .int (nI nC), .ref (B + 39), .ref (B + 40), .ref (B + 41), .int (nI nW), .ref (B + 42), .int h2, .ref (B + 43), .int (nI nM), .ref (B + 44), .ref (B + 45), .ref (B + 46)]))) ∧ md_sm G w1 n O D ∧ ∀ j : Nat, j ≠ 26 → j ≠ 28 → j ≠ 29 → j ≠ 30 → j ≠ 31 → j ≠ 32 → j ≠ 43 → w1 j = w j))) ([.ref (B + 26), .int t, .int c, .int b9] : List Value).toArray s 0 0 (kl_fr B)) (F0 m 41 ls []) := by
        intro n41
        induction n41 with
        | zero => intro p m9 g hm; exact absurd hm (Nat.not_lt_zero _)
        | succ n41 ih41 =>
          intro p m9 g hm hp hct hsh w1 H locs f17 q27 q28 q29 f18 f19 f20 q33 q34 q35 q36 q37 q38 q39 q40 q41 q43 frm hP ls hl
          have hm9 : m9 ≤ p := by rw [hct]; exact mt_ct_le _ _
          refine lv_iload hx hb dX5_shift_41 (lv_at hl 5 rfl) ?_
          refine lv_aload_n hx hb dX5_shift_43 rfl (lv_at hl 0 rfl) ?_
          refine kl_get (C := RX5) (T := TX5) (N := 31) (ci := 5) hx hb hts hinX5 hown hK hP f17 rfl 4 (by decide) (hts (.fieldLink RX5 82 "KinLedgerModel" "rows" "I") (by decide +kernel)) (fun _ h9 => h9) rfl dX5_shift_44 ?_
          refine kl_ge (tgt := 85) hx hb (by omega) (by omega) dX5_shift_47 (by decide) (fun c47 => ?_) (fun c47 => ?_)
          · obtain ⟨w24, f22, fr23, hP⟩ := kl_arr (g := mt_shf (md_T n O) D t q b9) hP q29 (fun i _ => md_shd_fin htn (by rw [show n = p by omega] at hsh ⊢; exact hsh) i)
            have f17 : w24 26 = some (.inr (5, [.int (nI 0), .int rs, .int (nI nT), .ref (B + 27), .int (nI n), .ref (B + 28), .ref (B + 29), .int (nI n), .ref (B + 30), .ref (B + 31), .ref (B + 32), .int (nI nL), .ref (B + 33), .ref (B + 34), .ref (B + 35), .ref (B + 36), .int (nI nS), .ref (B + 37), .ref (B + 38), .int (nI nC), .ref (B + 39), .ref (B + 40), .ref (B + 41), .int (nI nW), .ref (B + 42), .int hi, .ref (B + 43), .int (nI nM), .ref (B + 44), .ref (B + 45), .ref (B + 46)])) := (fr23 _ (by decide)).trans f17
            have q27 : w24 27 = some (kl_aI G 4 ((fun t => nI (cn t)))) := (fr23 _ (by decide)).trans q27
            have q28 : w24 28 = some (kl_aI G 24 O) := (fr23 _ (by decide)).trans q28
            have f18 : w24 30 = some (kl_aI G 24 sO) := (fr23 _ (by decide)).trans f18
            have f19 : w24 31 = some (kl_aI G 96 sD) := (fr23 _ (by decide)).trans f19
            have f20 : w24 32 = some (kl_aZ G 24 sG) := (fr23 _ (by decide)).trans f20
            have q33 : w24 33 = some (kl_aI G 7 lch) := (fr23 _ (by decide)).trans q33
            have q34 : w24 34 = some (kl_aI G 7 ((fun t => nI (lco t)))) := (fr23 _ (by decide)).trans q34
            have q35 : w24 35 = some (kl_aI G 7 lpa) := (fr23 _ (by decide)).trans q35
            have q36 : w24 36 = some (kl_aI G 7 lwy) := (fr23 _ (by decide)).trans q36
            have q37 : w24 37 = some (kl_aI G 5 stb) := (fr23 _ (by decide)).trans q37
            have q38 : w24 38 = some (kl_aI G 5 ((fun t => nI (sco t)))) := (fr23 _ (by decide)).trans q38
            have q39 : w24 39 = some (kl_aI G 5 ctb) := (fr23 _ (by decide)).trans q39
            have q40 : w24 40 = some (kl_aI G 5 ((fun t => nI (cln t)))) := (fr23 _ (by decide)).trans q40
            have q41 : w24 41 = some (kl_aI G 50 ((fun t => nI (cw t)))) := (fr23 _ (by decide)).trans q41
            have q43 : w24 43 = some (kl_aI G 12 pl) := (fr23 _ (by decide)).trans q43
            have frm : ∀ j : Nat, j ≠ 26 → j ≠ 28 → j ≠ 29 → j ≠ 30 → j ≠ 31 → j ≠ 32 → j ≠ 43 → w24 j = w j := fun j k0 k1 k2 k3 k4 k5 k6 => (fr23 j k2).trans (frm j k0 k1 k2 k3 k4 k5 k6)
            have hcn9 : m9 = mt_ct (fun a => md_T n O a = t) 24 := by rw [hct, show p = n by omega]; exact (md_ct_ext m5 (fun a ha z => htn (by rw [← z, md_ge ha]))).symm
            refine lv_aload_n hx hb dX5_shift_85 rfl (lv_at hl 0 rfl) ?_
            refine lv_aload_n hx hb dX5_shift_86 rfl (lv_at hl 0 rfl) ?_
            refine lv_iconst (v := nI 0) hx hb dX5_shift_87 (by decide) ?_
            refine lv_iconst (v := nI 2) hx hb dX5_shift_88 (by decide) ?_
            refine kl_cVi (C := RX5) (i := 26) (As := [.int (nI 0), .int (nI 2)]) (rest := [.ref (B + 26)]) ⟨hx, hb, hml, hown, hts⟩ (c_X5_settle l G B _ ccol 0 2 f17 q28 f22 f18 f19 q33 q34 q35 q36 q37 q38 q39 q40 q41 q43 ⟨by omega, by omega, by omega, by omega, by omega⟩ hrp (by omega) (by omega) (by omega)) (cwV 2 hts gX5_shift_X5_settle rfl rfl rfl (by decide +kernel) ⟨Nat.le_of_ble_eq_true rfl, Nat.le_of_ble_eq_true rfl⟩) hK hP f17 rfl rfl hl.1 rfl (Nat.le_of_ble_eq_true rfl) dX5_shift_89 ⟨Nat.le_of_ble_eq_true rfl, Nat.le_of_ble_eq_true rfl⟩ (fun r27 w25 H locs q26 hP => ?_)
            rcases q26 with ⟨hsw, rfl, ⟨h9, f28⟩, f29, f30, ⟨p9, f31⟩, fr32⟩ | ⟨y2, hy0, hsw, rfl, ⟨h9, f28⟩, ⟨O2, D2, f29, f30, hO2, hD2⟩, ⟨p9, f31⟩, fr32⟩
            · have q27 : w25 27 = some (kl_aI G 4 ((fun t => nI (cn t)))) := (fr32 _ (by decide) (by decide) (by decide) (by decide)).trans q27
              have f18 : w25 30 = some (kl_aI G 24 sO) := (fr32 _ (by decide) (by decide) (by decide) (by decide)).trans f18
              have f19 : w25 31 = some (kl_aI G 96 sD) := (fr32 _ (by decide) (by decide) (by decide) (by decide)).trans f19
              have f20 : w25 32 = some (kl_aZ G 24 sG) := (fr32 _ (by decide) (by decide) (by decide) (by decide)).trans f20
              have q33 : w25 33 = some (kl_aI G 7 lch) := (fr32 _ (by decide) (by decide) (by decide) (by decide)).trans q33
              have q34 : w25 34 = some (kl_aI G 7 ((fun t => nI (lco t)))) := (fr32 _ (by decide) (by decide) (by decide) (by decide)).trans q34
              have q35 : w25 35 = some (kl_aI G 7 lpa) := (fr32 _ (by decide) (by decide) (by decide) (by decide)).trans q35
              have q36 : w25 36 = some (kl_aI G 7 lwy) := (fr32 _ (by decide) (by decide) (by decide) (by decide)).trans q36
              have q37 : w25 37 = some (kl_aI G 5 stb) := (fr32 _ (by decide) (by decide) (by decide) (by decide)).trans q37
              have q38 : w25 38 = some (kl_aI G 5 ((fun t => nI (sco t)))) := (fr32 _ (by decide) (by decide) (by decide) (by decide)).trans q38
              have q39 : w25 39 = some (kl_aI G 5 ctb) := (fr32 _ (by decide) (by decide) (by decide) (by decide)).trans q39
              have q40 : w25 40 = some (kl_aI G 5 ((fun t => nI (cln t)))) := (fr32 _ (by decide) (by decide) (by decide) (by decide)).trans q40
              have q41 : w25 41 = some (kl_aI G 50 ((fun t => nI (cw t)))) := (fr32 _ (by decide) (by decide) (by decide) (by decide)).trans q41
              have f28 : w25 26 = some (.inr (5, [.int (nI 0), .int rs, .int (nI nT), .ref (B + 27), .int (nI n), .ref (B + 28), .ref (B + 29), .int (nI n), .ref (B + 30), .ref (B + 31), .ref (B + 32), .int (nI nL), .ref (B + 33), .ref (B + 34), .ref (B + 35), .ref (B + 36), .int (nI nS), .ref (B + 37), .ref (B + 38), .int (nI nC), .ref (B + 39), .ref (B + 40), .ref (B + 41), .int (nI nW), .ref (B + 42), .int h9, .ref (B + 43), .int (nI nM), .ref (B + 44), .ref (B + 45), .ref (B + 46)])) := f28
              have f29 : w25 28 = some (kl_aI G 24 O) := f29
              have f30 : w25 29 = some (kl_aI G 96 ((mt_shf (md_T n O) D t q b9))) := f30
              have f31 : w25 43 = some (kl_aI G 12 p9) := f31
              have frm : ∀ j : Nat, j ≠ 26 → j ≠ 28 → j ≠ 29 → j ≠ 30 → j ≠ 31 → j ≠ 32 → j ≠ 43 → w25 j = w j := fun j k0 k1 k2 k3 k4 k5 k6 => (fr32 j k0 k1 k2 k6).trans (frm j k0 k1 k2 k3 k4 k5 k6)
              refine kl_put (C := RX5) (T := TX5) (N := 31) (ci := 5) (v := .int (nI 0)) (ty := .int) hx hb hts hinX5 tyX5 tyX5_ok nmX5 hown hK hP f28 rfl 0 (by decide) (hts (.fieldLink RX5 71 "KinLedgerModel" "code" "I") (by decide +kernel)) (fun _ h9 => h9) rfl (by decide +kernel) rfl rfl (Nat.le_of_ble_eq_true rfl) dX5_shift_92 (fun w33 H locs f34 fr35 hzw33 hP => ?_)
              have f34 : w33 26 = some (.inr (5, [.int (nI 0), .int rs, .int (nI nT), .ref (B + 27), .int (nI n), .ref (B + 28), .ref (B + 29), .int (nI n), .ref (B + 30), .ref (B + 31), .ref (B + 32), .int (nI nL), .ref (B + 33), .ref (B + 34), .ref (B + 35), .ref (B + 36), .int (nI nS), .ref (B + 37), .ref (B + 38), .int (nI nC), .ref (B + 39), .ref (B + 40), .ref (B + 41), .int (nI nW), .ref (B + 42), .int h9, .ref (B + 43), .int (nI nM), .ref (B + 44), .ref (B + 45), .ref (B + 46)])) := f34
              have q27 : w33 27 = some (kl_aI G 4 ((fun t => nI (cn t)))) := (fr35 _ (by decide)).trans q27
              have f29 : w33 28 = some (kl_aI G 24 O) := (fr35 _ (by decide)).trans f29
              have f30 : w33 29 = some (kl_aI G 96 ((mt_shf (md_T n O) D t q b9))) := (fr35 _ (by decide)).trans f30
              have f18 : w33 30 = some (kl_aI G 24 sO) := (fr35 _ (by decide)).trans f18
              have f19 : w33 31 = some (kl_aI G 96 sD) := (fr35 _ (by decide)).trans f19
              have f20 : w33 32 = some (kl_aZ G 24 sG) := (fr35 _ (by decide)).trans f20
              have q33 : w33 33 = some (kl_aI G 7 lch) := (fr35 _ (by decide)).trans q33
              have q34 : w33 34 = some (kl_aI G 7 ((fun t => nI (lco t)))) := (fr35 _ (by decide)).trans q34
              have q35 : w33 35 = some (kl_aI G 7 lpa) := (fr35 _ (by decide)).trans q35
              have q36 : w33 36 = some (kl_aI G 7 lwy) := (fr35 _ (by decide)).trans q36
              have q37 : w33 37 = some (kl_aI G 5 stb) := (fr35 _ (by decide)).trans q37
              have q38 : w33 38 = some (kl_aI G 5 ((fun t => nI (sco t)))) := (fr35 _ (by decide)).trans q38
              have q39 : w33 39 = some (kl_aI G 5 ctb) := (fr35 _ (by decide)).trans q39
              have q40 : w33 40 = some (kl_aI G 5 ((fun t => nI (cln t)))) := (fr35 _ (by decide)).trans q40
              have q41 : w33 41 = some (kl_aI G 50 ((fun t => nI (cw t)))) := (fr35 _ (by decide)).trans q41
              have f31 : w33 43 = some (kl_aI G 12 p9) := (fr35 _ (by decide)).trans f31
              have frm : ∀ j : Nat, j ≠ 26 → j ≠ 28 → j ≠ 29 → j ≠ 30 → j ≠ 31 → j ≠ 32 → j ≠ 43 → w33 j = w j := fun j k0 k1 k2 k3 k4 k5 k6 => (fr35 j k0).trans (frm j k0 k1 k2 k3 k4 k5 k6)
              refine lv_aload_n hx hb dX5_shift_95 rfl (lv_at hl 0 rfl) ?_
              refine kl_get (C := RX5) (T := TX5) (N := 31) (ci := 5) hx hb hts hinX5 hown hK hP f34 rfl 0 (by decide) (hts (.fieldLink RX5 71 "KinLedgerModel" "code" "I") (by decide +kernel)) (fun _ h9 => h9) rfl dX5_shift_96 ?_
              refine kl_z_le (tgt := 106) hx hb (by omega) dX5_shift_99 (by decide) (fun c99 => ?_) (fun c99 => absurd c99 (by omega))
              refine lv_iload hx hb dX5_shift_106 (lv_at hl 4 rfl) ?_
              exact kl_iret hx hb hr hlocks hP (Or.inr (Or.inl (⟨⟨hok, fun z => by rw [hcq] at z; have := (kl_n0 (by omega)).mp z; omega⟩, q, c11, by omega, hcq, by rw [hcn9], hsw, ⟨_, _, f34⟩, f29, f30, ⟨_, _, _, _, f18, f19, f20, f31⟩, frm⟩))) dX5_shift_108
            · have q27 : w25 27 = some (kl_aI G 4 ((fun t => nI (cn t)))) := (fr32 _ (by decide) (by decide) (by decide) (by decide)).trans q27
              have f18 : w25 30 = some (kl_aI G 24 sO) := (fr32 _ (by decide) (by decide) (by decide) (by decide)).trans f18
              have f19 : w25 31 = some (kl_aI G 96 sD) := (fr32 _ (by decide) (by decide) (by decide) (by decide)).trans f19
              have f20 : w25 32 = some (kl_aZ G 24 sG) := (fr32 _ (by decide) (by decide) (by decide) (by decide)).trans f20
              have q33 : w25 33 = some (kl_aI G 7 lch) := (fr32 _ (by decide) (by decide) (by decide) (by decide)).trans q33
              have q34 : w25 34 = some (kl_aI G 7 ((fun t => nI (lco t)))) := (fr32 _ (by decide) (by decide) (by decide) (by decide)).trans q34
              have q35 : w25 35 = some (kl_aI G 7 lpa) := (fr32 _ (by decide) (by decide) (by decide) (by decide)).trans q35
              have q36 : w25 36 = some (kl_aI G 7 lwy) := (fr32 _ (by decide) (by decide) (by decide) (by decide)).trans q36
              have q37 : w25 37 = some (kl_aI G 5 stb) := (fr32 _ (by decide) (by decide) (by decide) (by decide)).trans q37
              have q38 : w25 38 = some (kl_aI G 5 ((fun t => nI (sco t)))) := (fr32 _ (by decide) (by decide) (by decide) (by decide)).trans q38
              have q39 : w25 39 = some (kl_aI G 5 ctb) := (fr32 _ (by decide) (by decide) (by decide) (by decide)).trans q39
              have q40 : w25 40 = some (kl_aI G 5 ((fun t => nI (cln t)))) := (fr32 _ (by decide) (by decide) (by decide) (by decide)).trans q40
              have q41 : w25 41 = some (kl_aI G 50 ((fun t => nI (cw t)))) := (fr32 _ (by decide) (by decide) (by decide) (by decide)).trans q41
              have f28 : w25 26 = some (.inr (5, [.int (nI 0), .int y2, .int (nI nT), .ref (B + 27), .int (nI n), .ref (B + 28), .ref (B + 29), .int (nI n), .ref (B + 30), .ref (B + 31), .ref (B + 32), .int (nI nL), .ref (B + 33), .ref (B + 34), .ref (B + 35), .ref (B + 36), .int (nI nS), .ref (B + 37), .ref (B + 38), .int (nI nC), .ref (B + 39), .ref (B + 40), .ref (B + 41), .int (nI nW), .ref (B + 42), .int h9, .ref (B + 43), .int (nI nM), .ref (B + 44), .ref (B + 45), .ref (B + 46)])) := f28
              have f29 : w25 28 = some (kl_aI G 24 O2) := f29
              have f30 : w25 29 = some (kl_aI G 96 D2) := f30
              have f31 : w25 43 = some (kl_aI G 12 p9) := f31
              have frm : ∀ j : Nat, j ≠ 26 → j ≠ 28 → j ≠ 29 → j ≠ 30 → j ≠ 31 → j ≠ 32 → j ≠ 43 → w25 j = w j := fun j k0 k1 k2 k3 k4 k5 k6 => (fr32 j k0 k1 k2 k6).trans (frm j k0 k1 k2 k3 k4 k5 k6)
              refine kl_put (C := RX5) (T := TX5) (N := 31) (ci := 5) (v := .int (nI 2)) (ty := .int) hx hb hts hinX5 tyX5 tyX5_ok nmX5 hown hK hP f28 rfl 0 (by decide) (hts (.fieldLink RX5 71 "KinLedgerModel" "code" "I") (by decide +kernel)) (fun _ h9 => h9) rfl (by decide +kernel) rfl rfl (Nat.le_of_ble_eq_true rfl) dX5_shift_92 (fun w36 H locs f37 fr38 hzw36 hP => ?_)
              have f37 : w36 26 = some (.inr (5, [.int (nI 2), .int y2, .int (nI nT), .ref (B + 27), .int (nI n), .ref (B + 28), .ref (B + 29), .int (nI n), .ref (B + 30), .ref (B + 31), .ref (B + 32), .int (nI nL), .ref (B + 33), .ref (B + 34), .ref (B + 35), .ref (B + 36), .int (nI nS), .ref (B + 37), .ref (B + 38), .int (nI nC), .ref (B + 39), .ref (B + 40), .ref (B + 41), .int (nI nW), .ref (B + 42), .int h9, .ref (B + 43), .int (nI nM), .ref (B + 44), .ref (B + 45), .ref (B + 46)])) := f37
              have q27 : w36 27 = some (kl_aI G 4 ((fun t => nI (cn t)))) := (fr38 _ (by decide)).trans q27
              have f29 : w36 28 = some (kl_aI G 24 O2) := (fr38 _ (by decide)).trans f29
              have f30 : w36 29 = some (kl_aI G 96 D2) := (fr38 _ (by decide)).trans f30
              have f18 : w36 30 = some (kl_aI G 24 sO) := (fr38 _ (by decide)).trans f18
              have f19 : w36 31 = some (kl_aI G 96 sD) := (fr38 _ (by decide)).trans f19
              have f20 : w36 32 = some (kl_aZ G 24 sG) := (fr38 _ (by decide)).trans f20
              have q33 : w36 33 = some (kl_aI G 7 lch) := (fr38 _ (by decide)).trans q33
              have q34 : w36 34 = some (kl_aI G 7 ((fun t => nI (lco t)))) := (fr38 _ (by decide)).trans q34
              have q35 : w36 35 = some (kl_aI G 7 lpa) := (fr38 _ (by decide)).trans q35
              have q36 : w36 36 = some (kl_aI G 7 lwy) := (fr38 _ (by decide)).trans q36
              have q37 : w36 37 = some (kl_aI G 5 stb) := (fr38 _ (by decide)).trans q37
              have q38 : w36 38 = some (kl_aI G 5 ((fun t => nI (sco t)))) := (fr38 _ (by decide)).trans q38
              have q39 : w36 39 = some (kl_aI G 5 ctb) := (fr38 _ (by decide)).trans q39
              have q40 : w36 40 = some (kl_aI G 5 ((fun t => nI (cln t)))) := (fr38 _ (by decide)).trans q40
              have q41 : w36 41 = some (kl_aI G 50 ((fun t => nI (cw t)))) := (fr38 _ (by decide)).trans q41
              have f31 : w36 43 = some (kl_aI G 12 p9) := (fr38 _ (by decide)).trans f31
              have frm : ∀ j : Nat, j ≠ 26 → j ≠ 28 → j ≠ 29 → j ≠ 30 → j ≠ 31 → j ≠ 32 → j ≠ 43 → w36 j = w j := fun j k0 k1 k2 k3 k4 k5 k6 => (fr38 j k0).trans (frm j k0 k1 k2 k3 k4 k5 k6)
              refine lv_aload_n hx hb dX5_shift_95 rfl (lv_at hl 0 rfl) ?_
              refine kl_get (C := RX5) (T := TX5) (N := 31) (ci := 5) hx hb hts hinX5 hown hK hP f37 rfl 0 (by decide) (hts (.fieldLink RX5 71 "KinLedgerModel" "code" "I") (by decide +kernel)) (fun _ h9 => h9) rfl dX5_shift_96 ?_
              refine kl_z_le (tgt := 106) hx hb (by omega) dX5_shift_99 (by decide) (fun c99 => absurd c99 (by omega)) (fun c99 => ?_)
              refine lv_iconst (v := nI 0) hx hb dX5_shift_102 (by decide) ?_
              refine lv_goto (tgt := 108) hx hb dX5_shift_103 (by decide) ?_
              exact kl_iret hx hb hr hlocks hP (Or.inr (Or.inr (⟨⟨hok, fun z => by rw [hcq] at z; have := (kl_n0 (by omega)).mp z; omega⟩, q, c11, by omega, hcq, y2, hy0, hsw, ⟨_, _, f37⟩, ⟨⟨_, _, f29, f30, fun q hq => (hO2 q hq).trans (hsO q hq), fun q hq => (hD2 q hq).trans (hsD q hq)⟩, ⟨_, _, _, _, f18, f19, f20, f31⟩⟩, frm⟩))) dX5_shift_108
          · refine lv_aload_n hx hb dX5_shift_50 rfl (lv_at hl 0 rfl) ?_
            refine kl_get (C := RX5) (T := TX5) (N := 31) (ci := 5) hx hb hts hinX5 hown hK hP f17 rfl 5 (by decide) (hts (.fieldLink RX5 13 "KinLedgerModel" "of" "[I") (by decide +kernel)) (fun _ h9 => h9) rfl dX5_shift_51 ?_
            refine lv_iload hx hb dX5_shift_54 (lv_at hl 5 rfl) ?_
            refine kl_iald hx hb hK hP q28 (by omega) (by omega) dX5_shift_56 ?_
            refine lv_iload_n hx hb dX5_shift_57 rfl (lv_at hl 1 rfl) ?_
            refine lv_icmp_ne (tgt := 79) hx hb dX5_shift_58 (by decide) (fun c58 => ?_) (fun c58 => ?_)
            · refine lv_iinc (v := nI (p + 1)) (lv' := [(5, .int (nI (p + 1))), (0, .ref (B + 26)), (1, .int t), (2, .int (nI q)), (3, .int b9), (4, .int (nI m9))]) hx hb dX5_shift_79 hl (k := 5) rfl (nI_1 _) (by decide) rfl (fun ls hl => ?_)
              refine lv_goto (tgt := 41) hx hb dX5_shift_82 (by decide) ?_
              exact ih41 (p + 1) m9 g (by omega) (by first | omega | grind) (by rw [mt_ct_n (P := fun a => md_T n O a = t) (fun z => c58 ((md_lt (by omega)).symm.trans z)), ← hct]) (hsh.no (fun z => c58 ((md_lt (by omega)).symm.trans z))) _ _ _ f17 q27 q28 q29 f18 f19 f20 q33 q34 q35 q36 q37 q38 q39 q40 q41 q43 frm hP ls (lv_sub hl [1, 2, 3, 4, 5, 0] rfl)
            · refine lv_aload_n hx hb dX5_shift_61 rfl (lv_at hl 0 rfl) ?_
              refine kl_get (C := RX5) (T := TX5) (N := 31) (ci := 5) hx hb hts hinX5 hown hK hP f17 rfl 6 (by decide) (hts (.fieldLink RX5 16 "KinLedgerModel" "cells" "[I") (by decide +kernel)) (fun _ h9 => h9) rfl dX5_shift_62 ?_
              refine lv_iconst (v := nI 4) hx hb dX5_shift_65 (by decide) ?_
              refine lv_iload hx hb dX5_shift_66 (lv_at hl 5 rfl) ?_
              refine lv_imul hx hb dX5_shift_68 ?_
              refine kl_top (z := nI (4 * p)) (pk_mul _ _) ?_
              refine lv_iload_n hx hb dX5_shift_69 rfl (lv_at hl 2 rfl) ?_
              refine lv_iadd hx hb dX5_shift_70 ?_
              refine kl_top (z := nI (4 * p + q)) (by first | exact nI_add _ _ | (rw [nI_add]; first | rfl | (congr 1; omega))) ?_
              refine lv_dup2_11 hx hb dX5_shift_71 rfl rfl ?_
              refine kl_iald hx hb hK hP q29 (by omega) (by omega) dX5_shift_72 ?_
              refine lv_iload_n hx hb dX5_shift_73 rfl (lv_at hl 3 rfl) ?_
              refine lv_iadd hx hb dX5_shift_74 ?_
              refine kl_iast hx hb hK hP q29 (by omega) (by omega) dX5_shift_75 (fun w39 H locs f40 fr41 hzw39 hP => ?_)
              have f17 : w39 26 = some (.inr (5, [.int (nI 0), .int rs, .int (nI nT), .ref (B + 27), .int (nI n), .ref (B + 28), .ref (B + 29), .int (nI n), .ref (B + 30), .ref (B + 31), .ref (B + 32), .int (nI nL), .ref (B + 33), .ref (B + 34), .ref (B + 35), .ref (B + 36), .int (nI nS), .ref (B + 37), .ref (B + 38), .int (nI nC), .ref (B + 39), .ref (B + 40), .ref (B + 41), .int (nI nW), .ref (B + 42), .int hi, .ref (B + 43), .int (nI nM), .ref (B + 44), .ref (B + 45), .ref (B + 46)])) := (fr41 _ (by decide)).trans f17
              have q27 : w39 27 = some (kl_aI G 4 ((fun t => nI (cn t)))) := (fr41 _ (by decide)).trans q27
              have q28 : w39 28 = some (kl_aI G 24 O) := (fr41 _ (by decide)).trans q28
              have f18 : w39 30 = some (kl_aI G 24 sO) := (fr41 _ (by decide)).trans f18
              have f19 : w39 31 = some (kl_aI G 96 sD) := (fr41 _ (by decide)).trans f19
              have f20 : w39 32 = some (kl_aZ G 24 sG) := (fr41 _ (by decide)).trans f20
              have q33 : w39 33 = some (kl_aI G 7 lch) := (fr41 _ (by decide)).trans q33
              have q34 : w39 34 = some (kl_aI G 7 ((fun t => nI (lco t)))) := (fr41 _ (by decide)).trans q34
              have q35 : w39 35 = some (kl_aI G 7 lpa) := (fr41 _ (by decide)).trans q35
              have q36 : w39 36 = some (kl_aI G 7 lwy) := (fr41 _ (by decide)).trans q36
              have q37 : w39 37 = some (kl_aI G 5 stb) := (fr41 _ (by decide)).trans q37
              have q38 : w39 38 = some (kl_aI G 5 ((fun t => nI (sco t)))) := (fr41 _ (by decide)).trans q38
              have q39 : w39 39 = some (kl_aI G 5 ctb) := (fr41 _ (by decide)).trans q39
              have q40 : w39 40 = some (kl_aI G 5 ((fun t => nI (cln t)))) := (fr41 _ (by decide)).trans q40
              have q41 : w39 41 = some (kl_aI G 50 ((fun t => nI (cw t)))) := (fr41 _ (by decide)).trans q41
              have q43 : w39 43 = some (kl_aI G 12 pl) := (fr41 _ (by decide)).trans q43
              have frm : ∀ j : Nat, j ≠ 26 → j ≠ 28 → j ≠ 29 → j ≠ 30 → j ≠ 31 → j ≠ 32 → j ≠ 43 → w39 j = w j := fun j k0 k1 k2 k3 k4 k5 k6 => (fr41 j k2).trans (frm j k0 k1 k2 k3 k4 k5 k6)
              refine lv_iinc (v := nI (m9 + 1)) (lv' := [(4, .int (nI (m9 + 1))), (0, .ref (B + 26)), (1, .int t), (2, .int (nI q)), (3, .int b9), (5, .int (nI p))]) hx hb dX5_shift_76 hl (k := 4) rfl (nI_1 _) (by decide) rfl (fun ls hl => ?_)
              refine lv_iinc (v := nI (p + 1)) (lv' := [(5, .int (nI (p + 1))), (4, .int (nI (m9 + 1))), (0, .ref (B + 26)), (1, .int t), (2, .int (nI q)), (3, .int b9)]) hx hb dX5_shift_79 hl (k := 5) rfl (nI_1 _) (by decide) rfl (fun ls hl => ?_)
              refine lv_goto (tgt := 41) hx hb dX5_shift_82 (by decide) ?_
              exact ih41 (p + 1) (m9 + 1) (upd g (4 * p + q) (g (4 * p + q) + b9)) (by omega) (by first | omega | grind) (by rw [mt_ct_y (P := fun a => md_T n O a = t) ((md_lt (by omega)).trans c58), ← hct]) (hsh.yes (by omega) ((md_lt (by omega)).trans c58)) _ _ _ f17 q27 q28 f40 f18 f19 f20 q33 q34 q35 q36 q37 q38 q39 q40 q41 q43 frm hP ls (lv_sub hl [2, 3, 4, 5, 1, 0] rfl)
      exact lp41 (n + 1) 0 0 D (Nat.lt_succ_of_le (by omega)) (by first | omega | grind) rfl mt_shd.rf _ _ _ f17 q27 q28 q29 f18 f19 f20 q33 q34 q35 q36 q37 q38 q39 q40 q41 q43 frm hP ls (lv_sub hl [2, 3, 4, 5, 1, 0] rfl)

abbrev rm_X5_keep : Room := { frames := 0, cells := 0, slots := 0, locals := 0 }
set_option maxHeartbeats 4000000 in
set_option maxRecDepth 100000 in
theorem c_X5_keep (l : Launch) (G : kl_G) (B : Nat) (w : kl_M) {nT nL nS nC nW nM n on : Nat} {ec rs hi : Int32} {O D : Nat → Int32} {kR : Nat → Nat} {kO kD : Nat → Int32} (q26 : w 26 = some (.inr (5, [.int ec, .int rs, .int (nI nT), .ref (B + 27), .int (nI n), .ref (B + 28), .ref (B + 29), .int (nI on), .ref (B + 30), .ref (B + 31), .ref (B + 32), .int (nI nL), .ref (B + 33), .ref (B + 34), .ref (B + 35), .ref (B + 36), .int (nI nS), .ref (B + 37), .ref (B + 38), .int (nI nC), .ref (B + 39), .ref (B + 40), .ref (B + 41), .int (nI nW), .ref (B + 42), .int hi, .ref (B + 43), .int (nI nM), .ref (B + 44), .ref (B + 45), .ref (B + 46)]))) (q28 : w 28 = some (kl_aI G 24 O)) (q29 : w 29 = some (kl_aI G 96 D)) (q44 : w 44 = some (kl_aI G 4 ((fun t => nI (kR t))))) (q45 : w 45 = some (kl_aI G 96 kO)) (q46 : w 46 = some (kl_aI G 384 kD)) (hn : n ≤ 24) (hnM : nM ≤ 4) : Met l yX5_keep wsX5_keep rm_X5_keep (kl_Pc G B w [.ref (B + 26)]) (kl_Qi G B (fun r w1 => (¬ nM < 4 ∧ w1 26 = some (.inr (5, [.int (nI 1), .int rs, .int (nI nT), .ref (B + 27), .int (nI n), .ref (B + 28), .ref (B + 29), .int (nI on), .ref (B + 30), .ref (B + 31), .ref (B + 32), .int (nI nL), .ref (B + 33), .ref (B + 34), .ref (B + 35), .ref (B + 36), .int (nI nS), .ref (B + 37), .ref (B + 38), .int (nI nC), .ref (B + 39), .ref (B + 40), .ref (B + 41), .int (nI nW), .ref (B + 42), .int hi, .ref (B + 43), .int (nI nM), .ref (B + 44), .ref (B + 45), .ref (B + 46)])) ∧ w1 44 = some (kl_aI G 4 ((fun t => nI (kR t)))) ∧ w1 45 = some (kl_aI G 96 kO) ∧ w1 46 = some (kl_aI G 384 kD) ∧ ∀ j : Nat, j ≠ 26 → j ≠ 44 → j ≠ 45 → j ≠ 46 → w1 j = w j) ∨ (nM < 4 ∧ r = nI (nM + 1) ∧ w1 26 = some (.inr (5, [.int (nI 0), .int rs, .int (nI nT), .ref (B + 27), .int (nI n), .ref (B + 28), .ref (B + 29), .int (nI on), .ref (B + 30), .ref (B + 31), .ref (B + 32), .int (nI nL), .ref (B + 33), .ref (B + 34), .ref (B + 35), .ref (B + 36), .int (nI nS), .ref (B + 37), .ref (B + 38), .int (nI nC), .ref (B + 39), .ref (B + 40), .ref (B + 41), .int (nI nW), .ref (B + 42), .int hi, .ref (B + 43), .int (nI (nM + 1)), .ref (B + 44), .ref (B + 45), .ref (B + 46)])) ∧ w1 44 = some (kl_aI G 4 (fun t => nI (kl_nup kR nM n t))) ∧ (∃ kO2 kD2, w1 45 = some (kl_aI G 96 kO2) ∧ w1 46 = some (kl_aI G 384 kD2) ∧ md_kc (24 * nM) n O kO kO2 ∧ md_kc (96 * nM) (4 * n) D kD kD2) ∧ ∀ j : Nat, j ≠ 26 → j ≠ 44 → j ≠ 45 → j ≠ 46 → w1 j = w j))) 0 0 (kl_fr B) := by
  refine Met.ofW (cc := cX5_keep) (maxL := 2) (ret := (some .int)) (by decide) rfl ?_
  intro pg e s m args below meth cd s₁ Bd hml hv
  obtain ⟨rfl, hP0, hK⟩ := hv
  have hx := Bd.exec
  have hb := Bd.bytes
  have hr := Bd.returns
  have hts := atoms_spec (ws := wsX5_keep) Bd.pre
  have hown : s.vm.findClass RX5 = some m.cls := findClass_of_methodNamed Bd.named
  have hlocks := Bd.notSynchronized
  have hinX5 : ∀ w ∈ u_ws RX5 TX5 31, w ∈ wsX5_keep := by decide +kernel
  have hP := kl_S.rf hP0
  have hl := lv_entry ([.ref (B + 26)]) (n := 2) (Nat.le_of_ble_eq_true rfl)
  rw [lg_entry_eq]
  generalize (lg_sl ([.ref (B + 26)]) ++ List.replicate (2 - (lg_sl ([.ref (B + 26)])).length) Slot.unset).toArray = ls at hl ⊢
  have hl : lv_has ls 2 [(0, .ref (B + 26))] := hl
  have frm : ∀ j : Nat, j ≠ 26 → j ≠ 44 → j ≠ 45 → j ≠ 46 → w j = w j := fun j _ _ _ _ => rfl
  refine lv_aload_n hx hb dX5_keep_0 rfl (lv_at hl 0 rfl) ?_
  refine lv_aload_n hx hb dX5_keep_1 rfl (lv_at hl 0 rfl) ?_
  refine kl_get (C := RX5) (T := TX5) (N := 31) (ci := 5) hx hb hts hinX5 hown hK hP q26 rfl 27 (by decide) (hts (.fieldLink RX5 159 "KinLedgerModel" "kept" "I") (by decide +kernel)) (fun _ h9 => h9) rfl dX5_keep_2 ?_
  refine lv_iconst (v := nI 4) hx hb dX5_keep_5 (by decide) ?_
  refine kl_ne (tgt := 13) hx hb (by omega) (by omega) dX5_keep_6 (by decide) (fun c6 => ?_) (fun c6 => ?_)
  · refine lv_iconst (v := nI 0) hx hb dX5_keep_13 (by decide) ?_
    refine kl_put (C := RX5) (T := TX5) (N := 31) (ci := 5) (v := .int (nI 0)) (ty := .int) hx hb hts hinX5 tyX5 tyX5_ok nmX5 hown hK hP q26 rfl 0 (by decide) (hts (.fieldLink RX5 71 "KinLedgerModel" "code" "I") (by decide +kernel)) (fun _ h9 => h9) rfl (by decide +kernel) rfl rfl (Nat.le_of_ble_eq_true rfl) dX5_keep_14 (fun w1 H locs f2 fr3 hzw1 hP => ?_)
    have f2 : w1 26 = some (.inr (5, [.int (nI 0), .int rs, .int (nI nT), .ref (B + 27), .int (nI n), .ref (B + 28), .ref (B + 29), .int (nI on), .ref (B + 30), .ref (B + 31), .ref (B + 32), .int (nI nL), .ref (B + 33), .ref (B + 34), .ref (B + 35), .ref (B + 36), .int (nI nS), .ref (B + 37), .ref (B + 38), .int (nI nC), .ref (B + 39), .ref (B + 40), .ref (B + 41), .int (nI nW), .ref (B + 42), .int hi, .ref (B + 43), .int (nI nM), .ref (B + 44), .ref (B + 45), .ref (B + 46)])) := f2
    have q28 : w1 28 = some (kl_aI G 24 O) := (fr3 _ (by decide)).trans q28
    have q29 : w1 29 = some (kl_aI G 96 D) := (fr3 _ (by decide)).trans q29
    have q44 : w1 44 = some (kl_aI G 4 ((fun t => nI (kR t)))) := (fr3 _ (by decide)).trans q44
    have q45 : w1 45 = some (kl_aI G 96 kO) := (fr3 _ (by decide)).trans q45
    have q46 : w1 46 = some (kl_aI G 384 kD) := (fr3 _ (by decide)).trans q46
    have frm : ∀ j : Nat, j ≠ 26 → j ≠ 44 → j ≠ 45 → j ≠ 46 → w1 j = w j := fun j k0 k1 k2 k3 => (fr3 j k0).trans (frm j k0 k1 k2 k3)
    refine lv_aload_n hx hb dX5_keep_17 rfl (lv_at hl 0 rfl) ?_
    refine kl_get (C := RX5) (T := TX5) (N := 31) (ci := 5) hx hb hts hinX5 hown hK hP f2 rfl 0 (by decide) (hts (.fieldLink RX5 71 "KinLedgerModel" "code" "I") (by decide +kernel)) (fun _ h9 => h9) rfl dX5_keep_18 ?_
    refine kl_z_le (tgt := 26) hx hb (by omega) dX5_keep_21 (by decide) (fun c21 => ?_) (fun c21 => absurd c21 (by omega))
    have hok : nM < 4 := by omega
    refine lv_aload_n hx hb dX5_keep_26 rfl (lv_at hl 0 rfl) ?_
    refine kl_get (C := RX5) (T := TX5) (N := 31) (ci := 5) hx hb hts hinX5 hown hK hP f2 rfl 28 (by decide) (hts (.fieldLink RX5 62 "KinLedgerModel" "keptRows" "[I") (by decide +kernel)) (fun _ h9 => h9) rfl dX5_keep_27 ?_
    refine lv_aload_n hx hb dX5_keep_30 rfl (lv_at hl 0 rfl) ?_
    refine kl_get (C := RX5) (T := TX5) (N := 31) (ci := 5) hx hb hts hinX5 hown hK hP f2 rfl 27 (by decide) (hts (.fieldLink RX5 159 "KinLedgerModel" "kept" "I") (by decide +kernel)) (fun _ h9 => h9) rfl dX5_keep_31 ?_
    refine lv_aload_n hx hb dX5_keep_34 rfl (lv_at hl 0 rfl) ?_
    refine kl_get (C := RX5) (T := TX5) (N := 31) (ci := 5) hx hb hts hinX5 hown hK hP f2 rfl 4 (by decide) (hts (.fieldLink RX5 82 "KinLedgerModel" "rows" "I") (by decide +kernel)) (fun _ h9 => h9) rfl dX5_keep_35 ?_
    refine kl_iast hx hb hK hP q44 (by omega) (by omega) dX5_keep_38 (fun w4 H locs f5 fr6 hzw4 hP => ?_)
    rw [kl_nup_upd] at f5
    have f2 : w4 26 = some (.inr (5, [.int (nI 0), .int rs, .int (nI nT), .ref (B + 27), .int (nI n), .ref (B + 28), .ref (B + 29), .int (nI on), .ref (B + 30), .ref (B + 31), .ref (B + 32), .int (nI nL), .ref (B + 33), .ref (B + 34), .ref (B + 35), .ref (B + 36), .int (nI nS), .ref (B + 37), .ref (B + 38), .int (nI nC), .ref (B + 39), .ref (B + 40), .ref (B + 41), .int (nI nW), .ref (B + 42), .int hi, .ref (B + 43), .int (nI nM), .ref (B + 44), .ref (B + 45), .ref (B + 46)])) := (fr6 _ (by decide)).trans f2
    have q28 : w4 28 = some (kl_aI G 24 O) := (fr6 _ (by decide)).trans q28
    have q29 : w4 29 = some (kl_aI G 96 D) := (fr6 _ (by decide)).trans q29
    have q45 : w4 45 = some (kl_aI G 96 kO) := (fr6 _ (by decide)).trans q45
    have q46 : w4 46 = some (kl_aI G 384 kD) := (fr6 _ (by decide)).trans q46
    have frm : ∀ j : Nat, j ≠ 26 → j ≠ 44 → j ≠ 45 → j ≠ 46 → w4 j = w j := fun j k0 k1 k2 k3 => (fr6 j k1).trans (frm j k0 k1 k2 k3)
    refine lv_iconst (v := nI 0) hx hb dX5_keep_39 (by decide) ?_
    refine lv_istore_n (lv' := [(1, .int (nI 0)), (0, .ref (B + 26))]) hx hb dX5_keep_40 rfl hl (by decide) rfl (fun ls hl => ?_)
    have lp41 : ∀ (n41 : Nat) (r9 : Nat) (o2 : Nat → Int32), n - r9 < n41 → (r9 ≤ n) → (md_kc (24 * nM) r9 O kO o2) → ∀ (w1 : kl_M) (H : Heap) (locs : List Loc), w1 26 = some (.inr (5, [.int (nI 0), .int rs, .int (nI nT), .ref (B + 27), .int (nI n), .ref (B + 28), .ref (B + 29), .int (nI on), .ref (B + 30), .ref (B + 31), .ref (B + 32), .int (nI nL), .ref (B + 33), .ref (B + 34), .ref (B + 35), .ref (B + 36), .int (nI nS), .ref (B + 37), .ref (B + 38), .int (nI nC), .ref (B + 39), .ref (B + 40), .ref (B + 41), .int (nI nW), .ref (B + 42), .int hi, .ref (B + 43), .int (nI nM), .ref (B + 44), .ref (B + 45), .ref (B + 46)])) → w1 28 = some (kl_aI G 24 O) → w1 29 = some (kl_aI G 96 D) → w1 44 = some (kl_aI G 4 ((fun t => nI ((kl_nup kR nM n) t)))) → w1 45 = some (kl_aI G 96 o2) → w1 46 = some (kl_aI G 384 kD) → (∀ j : Nat, j ≠ 26 → j ≠ 44 → j ≠ 45 → j ≠ 46 → w1 j = w j) → kl_S G B w1 s.heap H locs → ∀ ls : Array Slot, lv_has ls 2 [(0, .ref (B + 26)), (1, .int (nI r9))] → W pg l e rm_X5_keep s m ([.ref (B + 26)] : List Value).toArray below meth cd H locs (0) (0) (MQ below (kl_Qi G B (fun r w1 => (¬ nM < 4 ∧ w1 26 = some (.inr (5, [.int (nI 1), .int rs, .int (nI nT), .ref (B + 27), .int (nI n), .ref (B + 28), .ref (B + 29), .int (nI on), .ref (B + 30), .ref (B + 31), .ref (B + 32), .int (nI nL), .ref (B + 33), .ref (B + 34), .ref (B + 35), .ref (B + 36), .int (nI nS), .ref (B + 37), .ref (B + 38), .int (nI nC), .ref (B + 39), .ref (B + 40), .ref (B + 41), .int (nI nW), .ref (B + 42), .int hi, .ref (B + 43), .int (nI nM), .ref (B + 44), .ref (B + 45), .ref (B + 46)])) ∧ w1 44 = some (kl_aI G 4 ((fun t => nI (kR t)))) ∧ w1 45 = some (kl_aI G 96 kO) ∧ w1 46 = some (kl_aI G 384 kD) ∧ ∀ j : Nat, j ≠ 26 → j ≠ 44 → j ≠ 45 → j ≠ 46 → w1 j = w j) ∨ (nM < 4 ∧ r = nI (nM + 1) ∧ w1 26 = some (.inr (5, [.int (nI 0), .int rs, .int (nI nT), .ref (B + 27), .int (nI n), .ref (B + 28), .ref (B + 29), .int (nI on), .ref (B + 30), .ref (B + 31), .ref (B + 32), .int (nI nL), .ref (B + 33), .ref (B + 34), .ref (B + 35), .ref (B + 36), .int (nI nS), .ref (B + 37), .ref (B + 38), .int (nI nC), .ref (B + 39), .ref (B + 40), .ref (B + 41), .int (nI nW), .ref (B + 42), .int hi, .ref (B + 43), .int (nI (nM + 1)), .ref (B + 44), .ref (B + 45), .ref (B + 46)])) ∧ w1 44 = some (kl_aI G 4 (fun t => nI (kl_nup kR nM n t))) ∧ (∃ kO2 kD2, w1 45 = some (kl_aI G 96 kO2) ∧ w1 46 = some (kl_aI G 384 kD2) ∧ md_kc (24 * nM) n O kO kO2 ∧ md_kc (96 * nM) (4 * n) D kD kD2) ∧ ∀ j : Nat, j ≠ 26 → j ≠ 44 → j ≠ 45 → j ≠ 46 → w1 j = w j))) ([.ref (B + 26)] : List Value).toArray s 0 0 (kl_fr B)) (F0 m 41 ls []) := by
      intro n41
      induction n41 with
      | zero => intro r9 o2 hm; exact absurd hm (Nat.not_lt_zero _)
      | succ n41 ih41 =>
        intro r9 o2 hm hr9 hko w1 H locs f2 q28 q29 f5 q45 q46 frm hP ls hl
        refine lv_iload_n hx hb dX5_keep_41 rfl (lv_at hl 1 rfl) ?_
        refine lv_aload_n hx hb dX5_keep_42 rfl (lv_at hl 0 rfl) ?_
        refine kl_get (C := RX5) (T := TX5) (N := 31) (ci := 5) hx hb hts hinX5 hown hK hP f2 rfl 4 (by decide) (hts (.fieldLink RX5 82 "KinLedgerModel" "rows" "I") (by decide +kernel)) (fun _ h9 => h9) rfl dX5_keep_43 ?_
        refine kl_ge (tgt := 75) hx hb (by omega) (by omega) dX5_keep_46 (by decide) (fun c46 => ?_) (fun c46 => ?_)
        · refine lv_iconst (v := nI 0) hx hb dX5_keep_75 (by decide) ?_
          refine lv_istore_n (lv' := [(1, .int (nI 0)), (0, .ref (B + 26))]) hx hb dX5_keep_76 rfl hl (by decide) rfl (fun ls hl => ?_)
          have lp77 : ∀ (n77 : Nat) (k9 : Nat) (d2 : Nat → Int32), 4 * n - k9 < n77 → (k9 ≤ 4 * n) → (md_kc (96 * nM) k9 D kD d2) → ∀ (w1 : kl_M) (H : Heap) (locs : List Loc), w1 26 = some (.inr (5, [.int (nI 0), .int rs, .int (nI nT), .ref (B + 27), .int (nI n), .ref (B + 28), .ref (B + 29), .int (nI on), .ref (B + 30), .ref (B + 31), .ref (B + 32), .int (nI nL), .ref (B + 33), .ref (B + 34), .ref (B + 35), .ref (B + 36), .int (nI nS), .ref (B + 37), .ref (B + 38), .int (nI nC), .ref (B + 39), .ref (B + 40), .ref (B + 41), .int (nI nW), .ref (B + 42), .int hi, .ref (B + 43), .int (nI nM), .ref (B + 44), .ref (B + 45), .ref (B + 46)])) → w1 28 = some (kl_aI G 24 O) → w1 29 = some (kl_aI G 96 D) → w1 44 = some (kl_aI G 4 ((fun t => nI ((kl_nup kR nM n) t)))) → w1 45 = some (kl_aI G 96 o2) → w1 46 = some (kl_aI G 384 d2) → (∀ j : Nat, j ≠ 26 → j ≠ 44 → j ≠ 45 → j ≠ 46 → w1 j = w j) → kl_S G B w1 s.heap H locs → ∀ ls : Array Slot, lv_has ls 2 [(0, .ref (B + 26)), (1, .int (nI k9))] → W pg l e rm_X5_keep s m ([.ref (B + 26)] : List Value).toArray below meth cd H locs (0) (0) (MQ below (kl_Qi G B (fun r w1 => (¬ nM < 4 ∧ w1 26 = some (.inr (5, [.int (nI 1), .int rs, .int (nI nT), .ref (B + 27), .int (nI n), .ref (B + 28), .ref (B + 29), .int (nI on), .ref (B + 30), .ref (B + 31), .ref (B + 32), .int (nI nL), .ref (B + 33), .ref (B + 34), .ref (B + 35), .ref (B + 36), .int (nI nS), .ref (B + 37), .ref (B + 38), .int (nI nC), .ref (B + 39), .ref (B + 40), .ref (B + 41), .int (nI nW), .ref (B + 42), .int hi, .ref (B + 43), .int (nI nM), .ref (B + 44), .ref (B + 45), .ref (B + 46)])) ∧ w1 44 = some (kl_aI G 4 ((fun t => nI (kR t)))) ∧ w1 45 = some (kl_aI G 96 kO) ∧ w1 46 = some (kl_aI G 384 kD) ∧ ∀ j : Nat, j ≠ 26 → j ≠ 44 → j ≠ 45 → j ≠ 46 → w1 j = w j) ∨ (nM < 4 ∧ r = nI (nM + 1) ∧ w1 26 = some (.inr (5, [.int (nI 0), .int rs, .int (nI nT), .ref (B + 27), .int (nI n), .ref (B + 28), .ref (B + 29), .int (nI on), .ref (B + 30), .ref (B + 31), .ref (B + 32), .int (nI nL), .ref (B + 33), .ref (B + 34), .ref (B + 35), .ref (B + 36), .int (nI nS), .ref (B + 37), .ref (B + 38), .int (nI nC), .ref (B + 39), .ref (B + 40), .ref (B + 41), .int (nI nW), .ref (B + 42), .int hi, .ref (B + 43), .int (nI (nM + 1)), .ref (B + 44), .ref (B + 45), .ref (B + 46)])) ∧ w1 44 = some (kl_aI G 4 (fun t => nI (kl_nup kR nM n t))) ∧ (∃ kO2 kD2, w1 45 = some (kl_aI G 96 kO2) ∧ w1 46 = some (kl_aI G 384 kD2) ∧ md_kc (24 * nM) n O kO kO2 ∧ md_kc (96 * nM) (4 * n) D kD kD2) ∧ ∀ j : Nat, j ≠ 26 → j ≠ 44 → j ≠ 45 → j ≠ 46 → w1 j = w j))) ([.ref (B + 26)] : List Value).toArray s 0 0 (kl_fr B)) (F0 m 77 ls []) := by
            intro n77
            induction n77 with
            | zero => intro k9 d2 hm; exact absurd hm (Nat.not_lt_zero _)
            | succ n77 ih77 =>
              intro k9 d2 hm hk9 hkd w1 H locs f2 q28 q29 f5 q45 q46 frm hP ls hl
              refine lv_iload_n hx hb dX5_keep_77 rfl (lv_at hl 1 rfl) ?_
              refine lv_iconst (v := nI 4) hx hb dX5_keep_78 (by decide) ?_
              refine lv_aload_n hx hb dX5_keep_79 rfl (lv_at hl 0 rfl) ?_
              refine kl_get (C := RX5) (T := TX5) (N := 31) (ci := 5) hx hb hts hinX5 hown hK hP f2 rfl 4 (by decide) (hts (.fieldLink RX5 82 "KinLedgerModel" "rows" "I") (by decide +kernel)) (fun _ h9 => h9) rfl dX5_keep_80 ?_
              refine lv_imul hx hb dX5_keep_83 ?_
              refine kl_top (z := nI (4 * n)) (pk_mul _ _) ?_
              refine kl_ge (tgt := 113) hx hb (by omega) (by omega) dX5_keep_84 (by decide) (fun c84 => ?_) (fun c84 => ?_)
              · refine lv_aload_n hx hb dX5_keep_113 rfl (lv_at hl 0 rfl) ?_
                refine lv_dup hx hb dX5_keep_114 rfl ?_
                refine kl_get (C := RX5) (T := TX5) (N := 31) (ci := 5) hx hb hts hinX5 hown hK hP f2 rfl 27 (by decide) (hts (.fieldLink RX5 159 "KinLedgerModel" "kept" "I") (by decide +kernel)) (fun _ h9 => h9) rfl dX5_keep_115 ?_
                refine lv_iconst (v := nI 1) hx hb dX5_keep_118 (by decide) ?_
                refine lv_iadd hx hb dX5_keep_119 ?_
                refine kl_top (z := nI (nM + 1)) (by first | exact nI_add _ _ | (rw [nI_add]; first | rfl | (congr 1; omega))) ?_
                refine kl_put (C := RX5) (T := TX5) (N := 31) (ci := 5) (v := .int (nI (nM + 1))) (ty := .int) hx hb hts hinX5 tyX5 tyX5_ok nmX5 hown hK hP f2 rfl 27 (by decide) (hts (.fieldLink RX5 159 "KinLedgerModel" "kept" "I") (by decide +kernel)) (fun _ h9 => h9) rfl (by decide +kernel) rfl rfl (Nat.le_of_ble_eq_true rfl) dX5_keep_120 (fun w7 H locs f8 fr9 hzw7 hP => ?_)
                have f8 : w7 26 = some (.inr (5, [.int (nI 0), .int rs, .int (nI nT), .ref (B + 27), .int (nI n), .ref (B + 28), .ref (B + 29), .int (nI on), .ref (B + 30), .ref (B + 31), .ref (B + 32), .int (nI nL), .ref (B + 33), .ref (B + 34), .ref (B + 35), .ref (B + 36), .int (nI nS), .ref (B + 37), .ref (B + 38), .int (nI nC), .ref (B + 39), .ref (B + 40), .ref (B + 41), .int (nI nW), .ref (B + 42), .int hi, .ref (B + 43), .int (nI (nM + 1)), .ref (B + 44), .ref (B + 45), .ref (B + 46)])) := f8
                have q28 : w7 28 = some (kl_aI G 24 O) := (fr9 _ (by decide)).trans q28
                have q29 : w7 29 = some (kl_aI G 96 D) := (fr9 _ (by decide)).trans q29
                have f5 : w7 44 = some (kl_aI G 4 ((fun t => nI ((kl_nup kR nM n) t)))) := (fr9 _ (by decide)).trans f5
                have q45 : w7 45 = some (kl_aI G 96 o2) := (fr9 _ (by decide)).trans q45
                have q46 : w7 46 = some (kl_aI G 384 d2) := (fr9 _ (by decide)).trans q46
                have frm : ∀ j : Nat, j ≠ 26 → j ≠ 44 → j ≠ 45 → j ≠ 46 → w7 j = w j := fun j k0 k1 k2 k3 => (fr9 j k0).trans (frm j k0 k1 k2 k3)
                refine lv_aload_n hx hb dX5_keep_123 rfl (lv_at hl 0 rfl) ?_
                refine kl_get (C := RX5) (T := TX5) (N := 31) (ci := 5) hx hb hts hinX5 hown hK hP f8 rfl 27 (by decide) (hts (.fieldLink RX5 159 "KinLedgerModel" "kept" "I") (by decide +kernel)) (fun _ h9 => h9) rfl dX5_keep_124 ?_
                exact kl_iret hx hb hr hlocks hP (Or.inr (⟨hok, rfl, f8, f5, ⟨_, _, q45, q46, (show r9 = n by omega) ▸ hko, (show k9 = 4 * n by omega) ▸ hkd⟩, frm⟩)) dX5_keep_127
              · refine lv_aload_n hx hb dX5_keep_87 rfl (lv_at hl 0 rfl) ?_
                refine kl_get (C := RX5) (T := TX5) (N := 31) (ci := 5) hx hb hts hinX5 hown hK hP f2 rfl 30 (by decide) (hts (.fieldLink RX5 68 "KinLedgerModel" "keptCells" "[I") (by decide +kernel)) (fun _ h9 => h9) rfl dX5_keep_88 ?_
                refine lv_bipush (v := nI 96) hx hb dX5_keep_91 (by decide) ?_
                refine lv_aload_n hx hb dX5_keep_93 rfl (lv_at hl 0 rfl) ?_
                refine kl_get (C := RX5) (T := TX5) (N := 31) (ci := 5) hx hb hts hinX5 hown hK hP f2 rfl 27 (by decide) (hts (.fieldLink RX5 159 "KinLedgerModel" "kept" "I") (by decide +kernel)) (fun _ h9 => h9) rfl dX5_keep_94 ?_
                refine lv_imul hx hb dX5_keep_97 ?_
                refine kl_top (z := nI (96 * nM)) (pk_mul _ _) ?_
                refine lv_iload_n hx hb dX5_keep_98 rfl (lv_at hl 1 rfl) ?_
                refine lv_iadd hx hb dX5_keep_99 ?_
                refine kl_top (z := nI (96 * nM + k9)) (by first | exact nI_add _ _ | (rw [nI_add]; first | rfl | (congr 1; omega))) ?_
                refine lv_aload_n hx hb dX5_keep_100 rfl (lv_at hl 0 rfl) ?_
                refine kl_get (C := RX5) (T := TX5) (N := 31) (ci := 5) hx hb hts hinX5 hown hK hP f2 rfl 6 (by decide) (hts (.fieldLink RX5 16 "KinLedgerModel" "cells" "[I") (by decide +kernel)) (fun _ h9 => h9) rfl dX5_keep_101 ?_
                refine lv_iload_n hx hb dX5_keep_104 rfl (lv_at hl 1 rfl) ?_
                refine kl_iald hx hb hK hP q29 (by omega) (by omega) dX5_keep_105 ?_
                refine kl_iast hx hb hK hP q46 (by omega) (by omega) dX5_keep_106 (fun w10 H locs f11 fr12 hzw10 hP => ?_)
                have f2 : w10 26 = some (.inr (5, [.int (nI 0), .int rs, .int (nI nT), .ref (B + 27), .int (nI n), .ref (B + 28), .ref (B + 29), .int (nI on), .ref (B + 30), .ref (B + 31), .ref (B + 32), .int (nI nL), .ref (B + 33), .ref (B + 34), .ref (B + 35), .ref (B + 36), .int (nI nS), .ref (B + 37), .ref (B + 38), .int (nI nC), .ref (B + 39), .ref (B + 40), .ref (B + 41), .int (nI nW), .ref (B + 42), .int hi, .ref (B + 43), .int (nI nM), .ref (B + 44), .ref (B + 45), .ref (B + 46)])) := (fr12 _ (by decide)).trans f2
                have q28 : w10 28 = some (kl_aI G 24 O) := (fr12 _ (by decide)).trans q28
                have q29 : w10 29 = some (kl_aI G 96 D) := (fr12 _ (by decide)).trans q29
                have f5 : w10 44 = some (kl_aI G 4 ((fun t => nI ((kl_nup kR nM n) t)))) := (fr12 _ (by decide)).trans f5
                have q45 : w10 45 = some (kl_aI G 96 o2) := (fr12 _ (by decide)).trans q45
                have frm : ∀ j : Nat, j ≠ 26 → j ≠ 44 → j ≠ 45 → j ≠ 46 → w10 j = w j := fun j k0 k1 k2 k3 => (fr12 j k3).trans (frm j k0 k1 k2 k3)
                refine lv_iinc (v := nI (k9 + 1)) (lv' := [(1, .int (nI (k9 + 1))), (0, .ref (B + 26))]) hx hb dX5_keep_107 hl (k := 1) rfl (nI_1 _) (by decide) rfl (fun ls hl => ?_)
                refine lv_goto (tgt := 77) hx hb dX5_keep_110 (by decide) ?_
                exact ih77 (k9 + 1) (upd d2 (96 * nM + k9) (D k9)) (by omega) (by first | omega | grind) hkd.yes _ _ _ f2 q28 q29 f5 q45 f11 frm hP ls (lv_sub hl [1, 0] rfl)
          exact lp77 ((4 * n) + 1) 0 kD (Nat.lt_succ_of_le (by omega)) (by first | omega | grind) md_kc.rf _ _ _ f2 q28 q29 f5 q45 q46 frm hP ls (lv_sub hl [1, 0] rfl)
        · refine lv_aload_n hx hb dX5_keep_49 rfl (lv_at hl 0 rfl) ?_
          refine kl_get (C := RX5) (T := TX5) (N := 31) (ci := 5) hx hb hts hinX5 hown hK hP f2 rfl 29 (by decide) (hts (.fieldLink RX5 65 "KinLedgerModel" "keptOf" "[I") (by decide +kernel)) (fun _ h9 => h9) rfl dX5_keep_50 ?_
          refine lv_bipush (v := nI 24) hx hb dX5_keep_53 (by decide) ?_
          refine lv_aload_n hx hb dX5_keep_55 rfl (lv_at hl 0 rfl) ?_
          refine kl_get (C := RX5) (T := TX5) (N := 31) (ci := 5) hx hb hts hinX5 hown hK hP f2 rfl 27 (by decide) (hts (.fieldLink RX5 159 "KinLedgerModel" "kept" "I") (by decide +kernel)) (fun _ h9 => h9) rfl dX5_keep_56 ?_
          refine lv_imul hx hb dX5_keep_59 ?_
          refine kl_top (z := nI (24 * nM)) (pk_mul _ _) ?_
          refine lv_iload_n hx hb dX5_keep_60 rfl (lv_at hl 1 rfl) ?_
          refine lv_iadd hx hb dX5_keep_61 ?_
          refine kl_top (z := nI (24 * nM + r9)) (by first | exact nI_add _ _ | (rw [nI_add]; first | rfl | (congr 1; omega))) ?_
          refine lv_aload_n hx hb dX5_keep_62 rfl (lv_at hl 0 rfl) ?_
          refine kl_get (C := RX5) (T := TX5) (N := 31) (ci := 5) hx hb hts hinX5 hown hK hP f2 rfl 5 (by decide) (hts (.fieldLink RX5 13 "KinLedgerModel" "of" "[I") (by decide +kernel)) (fun _ h9 => h9) rfl dX5_keep_63 ?_
          refine lv_iload_n hx hb dX5_keep_66 rfl (lv_at hl 1 rfl) ?_
          refine kl_iald hx hb hK hP q28 (by omega) (by omega) dX5_keep_67 ?_
          refine kl_iast hx hb hK hP q45 (by omega) (by omega) dX5_keep_68 (fun w13 H locs f14 fr15 hzw13 hP => ?_)
          have f2 : w13 26 = some (.inr (5, [.int (nI 0), .int rs, .int (nI nT), .ref (B + 27), .int (nI n), .ref (B + 28), .ref (B + 29), .int (nI on), .ref (B + 30), .ref (B + 31), .ref (B + 32), .int (nI nL), .ref (B + 33), .ref (B + 34), .ref (B + 35), .ref (B + 36), .int (nI nS), .ref (B + 37), .ref (B + 38), .int (nI nC), .ref (B + 39), .ref (B + 40), .ref (B + 41), .int (nI nW), .ref (B + 42), .int hi, .ref (B + 43), .int (nI nM), .ref (B + 44), .ref (B + 45), .ref (B + 46)])) := (fr15 _ (by decide)).trans f2
          have q28 : w13 28 = some (kl_aI G 24 O) := (fr15 _ (by decide)).trans q28
          have q29 : w13 29 = some (kl_aI G 96 D) := (fr15 _ (by decide)).trans q29
          have f5 : w13 44 = some (kl_aI G 4 ((fun t => nI ((kl_nup kR nM n) t)))) := (fr15 _ (by decide)).trans f5
          have q46 : w13 46 = some (kl_aI G 384 kD) := (fr15 _ (by decide)).trans q46
          have frm : ∀ j : Nat, j ≠ 26 → j ≠ 44 → j ≠ 45 → j ≠ 46 → w13 j = w j := fun j k0 k1 k2 k3 => (fr15 j k2).trans (frm j k0 k1 k2 k3)
          refine lv_iinc (v := nI (r9 + 1)) (lv' := [(1, .int (nI (r9 + 1))), (0, .ref (B + 26))]) hx hb dX5_keep_69 hl (k := 1) rfl (nI_1 _) (by decide) rfl (fun ls hl => ?_)
          refine lv_goto (tgt := 41) hx hb dX5_keep_72 (by decide) ?_
          exact ih41 (r9 + 1) (upd o2 (24 * nM + r9) (O r9)) (by omega) (by first | omega | grind) hko.yes _ _ _ f2 q28 q29 f5 f14 q46 frm hP ls (lv_sub hl [1, 0] rfl)
    exact lp41 (n + 1) 0 kO (Nat.lt_succ_of_le (by omega)) (by first | omega | grind) md_kc.rf _ _ _ f2 q28 q29 f5 q45 q46 frm hP ls (lv_sub hl [1, 0] rfl)
  · refine lv_iconst (v := nI 1) hx hb dX5_keep_9 (by decide) ?_
    refine lv_goto (tgt := 14) hx hb dX5_keep_10 (by decide) ?_
    refine kl_put (C := RX5) (T := TX5) (N := 31) (ci := 5) (v := .int (nI 1)) (ty := .int) hx hb hts hinX5 tyX5 tyX5_ok nmX5 hown hK hP q26 rfl 0 (by decide) (hts (.fieldLink RX5 71 "KinLedgerModel" "code" "I") (by decide +kernel)) (fun _ h9 => h9) rfl (by decide +kernel) rfl rfl (Nat.le_of_ble_eq_true rfl) dX5_keep_14 (fun w16 H locs f17 fr18 hzw16 hP => ?_)
    have f17 : w16 26 = some (.inr (5, [.int (nI 1), .int rs, .int (nI nT), .ref (B + 27), .int (nI n), .ref (B + 28), .ref (B + 29), .int (nI on), .ref (B + 30), .ref (B + 31), .ref (B + 32), .int (nI nL), .ref (B + 33), .ref (B + 34), .ref (B + 35), .ref (B + 36), .int (nI nS), .ref (B + 37), .ref (B + 38), .int (nI nC), .ref (B + 39), .ref (B + 40), .ref (B + 41), .int (nI nW), .ref (B + 42), .int hi, .ref (B + 43), .int (nI nM), .ref (B + 44), .ref (B + 45), .ref (B + 46)])) := f17
    have q28 : w16 28 = some (kl_aI G 24 O) := (fr18 _ (by decide)).trans q28
    have q29 : w16 29 = some (kl_aI G 96 D) := (fr18 _ (by decide)).trans q29
    have q44 : w16 44 = some (kl_aI G 4 ((fun t => nI (kR t)))) := (fr18 _ (by decide)).trans q44
    have q45 : w16 45 = some (kl_aI G 96 kO) := (fr18 _ (by decide)).trans q45
    have q46 : w16 46 = some (kl_aI G 384 kD) := (fr18 _ (by decide)).trans q46
    have frm : ∀ j : Nat, j ≠ 26 → j ≠ 44 → j ≠ 45 → j ≠ 46 → w16 j = w j := fun j k0 k1 k2 k3 => (fr18 j k0).trans (frm j k0 k1 k2 k3)
    refine lv_aload_n hx hb dX5_keep_17 rfl (lv_at hl 0 rfl) ?_
    refine kl_get (C := RX5) (T := TX5) (N := 31) (ci := 5) hx hb hts hinX5 hown hK hP f17 rfl 0 (by decide) (hts (.fieldLink RX5 71 "KinLedgerModel" "code" "I") (by decide +kernel)) (fun _ h9 => h9) rfl dX5_keep_18 ?_
    refine kl_z_le (tgt := 26) hx hb (by omega) dX5_keep_21 (by decide) (fun c21 => absurd c21 (by omega)) (fun c21 => ?_)
    refine lv_iconst (v := nI 0) hx hb dX5_keep_24 (by decide) ?_
    exact kl_iret hx hb hr hlocks hP (Or.inl (⟨by omega, f17, q44, q45, q46, frm⟩)) dX5_keep_25

abbrev rm_X5_back : Room := { frames := 5, cells := 0, slots := 0, locals := 113 }
set_option maxHeartbeats 4000000 in
set_option maxRecDepth 100000 in
theorem c_X5_back (l : Launch) (G : kl_G) (B : Nat) (w : kl_M) {nT nL nS nC nW nM n on : Nat} {ec rs hi : Int32} {cn : Nat → Nat} {O D oO oD gn pl : Nat → Int32} {lch : Nat → Int32} {lco : Nat → Nat} {lpa lwy stb : Nat → Int32} {sco : Nat → Nat} {ctb : Nat → Int32} {cln cw : Nat → Nat} (ccol : Nat → Nat) {kR : Nat → Nat} {kO kD : Nat → Int32} (q26 : w 26 = some (.inr (5, [.int ec, .int rs, .int (nI nT), .ref (B + 27), .int (nI n), .ref (B + 28), .ref (B + 29), .int (nI on), .ref (B + 30), .ref (B + 31), .ref (B + 32), .int (nI nL), .ref (B + 33), .ref (B + 34), .ref (B + 35), .ref (B + 36), .int (nI nS), .ref (B + 37), .ref (B + 38), .int (nI nC), .ref (B + 39), .ref (B + 40), .ref (B + 41), .int (nI nW), .ref (B + 42), .int hi, .ref (B + 43), .int (nI nM), .ref (B + 44), .ref (B + 45), .ref (B + 46)]))) (q27 : w 27 = some (kl_aI G 4 ((fun t => nI (cn t))))) (q28 : w 28 = some (kl_aI G 24 O)) (q29 : w 29 = some (kl_aI G 96 D)) (q30 : w 30 = some (kl_aI G 24 oO)) (q31 : w 31 = some (kl_aI G 96 oD)) (q32 : w 32 = some (kl_aZ G 24 gn)) (q33 : w 33 = some (kl_aI G 7 lch)) (q34 : w 34 = some (kl_aI G 7 ((fun t => nI (lco t))))) (q35 : w 35 = some (kl_aI G 7 lpa)) (q36 : w 36 = some (kl_aI G 7 lwy)) (q37 : w 37 = some (kl_aI G 5 stb)) (q38 : w 38 = some (kl_aI G 5 ((fun t => nI (sco t))))) (q39 : w 39 = some (kl_aI G 5 ctb)) (q40 : w 40 = some (kl_aI G 5 ((fun t => nI (cln t))))) (q41 : w 41 = some (kl_aI G 50 ((fun t => nI (cw t))))) (q43 : w 43 = some (kl_aI G 12 pl)) (q44 : w 44 = some (kl_aI G 4 ((fun t => nI (kR t))))) (q45 : w 45 = some (kl_aI G 96 kO)) (q46 : w 46 = some (kl_aI G 384 kD)) (hmn : nT ≤ 4 ∧ nL ≤ 6 ∧ nS ≤ 4 ∧ nC ≤ 4 ∧ n ≤ 24) (hrp : (md_RP nL lch lco lpa lwy nS stb sco nC ctb cln cw ccol)) (hcn4 : ∀ j, j < nT → cn j ≤ 4) (hnM : nM ≤ 4) (hkR : ∀ j, j < nM → kR j ≤ 24) : Met l yX5_back wsX5_back rm_X5_back (kl_Pc G B w [.ref (B + 26)]) (kl_Qi G B (fun r w1 => (nM = 0 ∧ w1 26 = some (.inr (5, [.int (nI 1), .int rs, .int (nI nT), .ref (B + 27), .int (nI n), .ref (B + 28), .ref (B + 29), .int (nI on), .ref (B + 30), .ref (B + 31), .ref (B + 32), .int (nI nL), .ref (B + 33), .ref (B + 34), .ref (B + 35), .ref (B + 36), .int (nI nS), .ref (B + 37), .ref (B + 38), .int (nI nC), .ref (B + 39), .ref (B + 40), .ref (B + 41), .int (nI nW), .ref (B + 42), .int hi, .ref (B + 43), .int (nI nM), .ref (B + 44), .ref (B + 45), .ref (B + 46)])) ∧ md_sm G w1 n O D ∧ ∀ j : Nat, j ≠ 26 → j ≠ 28 → j ≠ 29 → j ≠ 30 → j ≠ 31 → j ≠ 32 → j ≠ 43 → w1 j = w j) ∨ (∃ (m : Nat) (O3 D3 : Nat → Int32), nM = m + 1 ∧ (∀ q, q < kR m → O3 q = kO (24 * m + q)) ∧ (∀ q, q < 4 * kR m → D3 q = kD (96 * m + q)) ∧ r = nI m ∧ md_sw 0 (mt_why (md_T (kR m) O3) D3 nT nS stb sco nL lch lco lpa nC ctb (fun j i => cw (10 * j + i)) cln) (nI 0) ∧ (∃ h2 on2, w1 26 = some (.inr (5, [.int (nI 0), .int rs, .int (nI nT), .ref (B + 27), .int (nI (kR m)), .ref (B + 28), .ref (B + 29), .int (nI on2), .ref (B + 30), .ref (B + 31), .ref (B + 32), .int (nI nL), .ref (B + 33), .ref (B + 34), .ref (B + 35), .ref (B + 36), .int (nI nS), .ref (B + 37), .ref (B + 38), .int (nI nC), .ref (B + 39), .ref (B + 40), .ref (B + 41), .int (nI nW), .ref (B + 42), .int h2, .ref (B + 43), .int (nI m), .ref (B + 44), .ref (B + 45), .ref (B + 46)]))) ∧ w1 28 = some (kl_aI G 24 O3) ∧ w1 29 = some (kl_aI G 96 D3) ∧ md_jk G w1 ∧ ∀ j : Nat, j ≠ 26 → j ≠ 28 → j ≠ 29 → j ≠ 30 → j ≠ 31 → j ≠ 32 → j ≠ 43 → w1 j = w j) ∨ (∃ (m : Nat) (O3 D3 : Nat → Int32), nM = m + 1 ∧ (∀ q, q < kR m → O3 q = kO (24 * m + q)) ∧ (∀ q, q < 4 * kR m → D3 q = kD (96 * m + q)) ∧ ∃ y2, y2 ≠ 0 ∧ md_sw 0 (mt_why (md_T (kR m) O3) D3 nT nS stb sco nL lch lco lpa nC ctb (fun j i => cw (10 * j + i)) cln) y2 ∧ (∃ h2 on2, w1 26 = some (.inr (5, [.int (nI 2), .int y2, .int (nI nT), .ref (B + 27), .int (nI n), .ref (B + 28), .ref (B + 29), .int (nI on2), .ref (B + 30), .ref (B + 31), .ref (B + 32), .int (nI nL), .ref (B + 33), .ref (B + 34), .ref (B + 35), .ref (B + 36), .int (nI nS), .ref (B + 37), .ref (B + 38), .int (nI nC), .ref (B + 39), .ref (B + 40), .ref (B + 41), .int (nI nW), .ref (B + 42), .int h2, .ref (B + 43), .int (nI nM), .ref (B + 44), .ref (B + 45), .ref (B + 46)]))) ∧ md_sm G w1 n O D ∧ ∀ j : Nat, j ≠ 26 → j ≠ 28 → j ≠ 29 → j ≠ 30 → j ≠ 31 → j ≠ 32 → j ≠ 43 → w1 j = w j))) 0 0 (kl_fr B) := by
  refine Met.ofW (cc := cX5_back) (maxL := 3) (ret := (some .int)) (by decide) rfl ?_
  intro pg e s m args below meth cd s₁ Bd hml hv
  obtain ⟨rfl, hP0, hK⟩ := hv
  have hx := Bd.exec
  have hb := Bd.bytes
  have hr := Bd.returns
  have hts := atoms_spec (ws := wsX5_back) Bd.pre
  have hown : s.vm.findClass RX5 = some m.cls := findClass_of_methodNamed Bd.named
  have hlocks := Bd.notSynchronized
  have hinX5 : ∀ w ∈ u_ws RX5 TX5 31, w ∈ wsX5_back := by decide +kernel
  have hP := kl_S.rf hP0
  have hl := lv_entry ([.ref (B + 26)]) (n := 3) (Nat.le_of_ble_eq_true rfl)
  rw [lg_entry_eq]
  generalize (lg_sl ([.ref (B + 26)]) ++ List.replicate (3 - (lg_sl ([.ref (B + 26)])).length) Slot.unset).toArray = ls at hl ⊢
  have hl : lv_has ls 3 [(0, .ref (B + 26))] := hl
  have frm : ∀ j : Nat, j ≠ 26 → j ≠ 28 → j ≠ 29 → j ≠ 30 → j ≠ 31 → j ≠ 32 → j ≠ 43 → w j = w j := fun j _ _ _ _ _ _ _ => rfl
  obtain ⟨m1, m2, m3, m4, m5⟩ := hmn
  have hrl := md_RP.hrl hrp
  refine lv_aload_n hx hb dX5_back_0 rfl (lv_at hl 0 rfl) ?_
  refine lv_aload_n hx hb dX5_back_1 rfl (lv_at hl 0 rfl) ?_
  refine kl_get (C := RX5) (T := TX5) (N := 31) (ci := 5) hx hb hts hinX5 hown hK hP q26 rfl 27 (by decide) (hts (.fieldLink RX5 159 "KinLedgerModel" "kept" "I") (by decide +kernel)) (fun _ h9 => h9) rfl dX5_back_2 ?_
  refine kl_z_ne (tgt := 12) hx hb (by omega) dX5_back_5 (by decide) (fun c5 => ?_) (fun c5 => ?_)
  · refine lv_iconst (v := nI 0) hx hb dX5_back_12 (by decide) ?_
    refine kl_put (C := RX5) (T := TX5) (N := 31) (ci := 5) (v := .int (nI 0)) (ty := .int) hx hb hts hinX5 tyX5 tyX5_ok nmX5 hown hK hP q26 rfl 0 (by decide) (hts (.fieldLink RX5 71 "KinLedgerModel" "code" "I") (by decide +kernel)) (fun _ h9 => h9) rfl (by decide +kernel) rfl rfl (Nat.le_of_ble_eq_true rfl) dX5_back_13 (fun w1 H locs f2 fr3 hzw1 hP => ?_)
    have f2 : w1 26 = some (.inr (5, [.int (nI 0), .int rs, .int (nI nT), .ref (B + 27), .int (nI n), .ref (B + 28), .ref (B + 29), .int (nI on), .ref (B + 30), .ref (B + 31), .ref (B + 32), .int (nI nL), .ref (B + 33), .ref (B + 34), .ref (B + 35), .ref (B + 36), .int (nI nS), .ref (B + 37), .ref (B + 38), .int (nI nC), .ref (B + 39), .ref (B + 40), .ref (B + 41), .int (nI nW), .ref (B + 42), .int hi, .ref (B + 43), .int (nI nM), .ref (B + 44), .ref (B + 45), .ref (B + 46)])) := f2
    have q27 : w1 27 = some (kl_aI G 4 ((fun t => nI (cn t)))) := (fr3 _ (by decide)).trans q27
    have q28 : w1 28 = some (kl_aI G 24 O) := (fr3 _ (by decide)).trans q28
    have q29 : w1 29 = some (kl_aI G 96 D) := (fr3 _ (by decide)).trans q29
    have q30 : w1 30 = some (kl_aI G 24 oO) := (fr3 _ (by decide)).trans q30
    have q31 : w1 31 = some (kl_aI G 96 oD) := (fr3 _ (by decide)).trans q31
    have q32 : w1 32 = some (kl_aZ G 24 gn) := (fr3 _ (by decide)).trans q32
    have q33 : w1 33 = some (kl_aI G 7 lch) := (fr3 _ (by decide)).trans q33
    have q34 : w1 34 = some (kl_aI G 7 ((fun t => nI (lco t)))) := (fr3 _ (by decide)).trans q34
    have q35 : w1 35 = some (kl_aI G 7 lpa) := (fr3 _ (by decide)).trans q35
    have q36 : w1 36 = some (kl_aI G 7 lwy) := (fr3 _ (by decide)).trans q36
    have q37 : w1 37 = some (kl_aI G 5 stb) := (fr3 _ (by decide)).trans q37
    have q38 : w1 38 = some (kl_aI G 5 ((fun t => nI (sco t)))) := (fr3 _ (by decide)).trans q38
    have q39 : w1 39 = some (kl_aI G 5 ctb) := (fr3 _ (by decide)).trans q39
    have q40 : w1 40 = some (kl_aI G 5 ((fun t => nI (cln t)))) := (fr3 _ (by decide)).trans q40
    have q41 : w1 41 = some (kl_aI G 50 ((fun t => nI (cw t)))) := (fr3 _ (by decide)).trans q41
    have q43 : w1 43 = some (kl_aI G 12 pl) := (fr3 _ (by decide)).trans q43
    have q44 : w1 44 = some (kl_aI G 4 ((fun t => nI (kR t)))) := (fr3 _ (by decide)).trans q44
    have q45 : w1 45 = some (kl_aI G 96 kO) := (fr3 _ (by decide)).trans q45
    have q46 : w1 46 = some (kl_aI G 384 kD) := (fr3 _ (by decide)).trans q46
    have frm : ∀ j : Nat, j ≠ 26 → j ≠ 28 → j ≠ 29 → j ≠ 30 → j ≠ 31 → j ≠ 32 → j ≠ 43 → w1 j = w j := fun j k0 k1 k2 k3 k4 k5 k6 => (fr3 j k0).trans (frm j k0 k1 k2 k3 k4 k5 k6)
    refine lv_aload_n hx hb dX5_back_16 rfl (lv_at hl 0 rfl) ?_
    refine kl_get (C := RX5) (T := TX5) (N := 31) (ci := 5) hx hb hts hinX5 hown hK hP f2 rfl 0 (by decide) (hts (.fieldLink RX5 71 "KinLedgerModel" "code" "I") (by decide +kernel)) (fun _ h9 => h9) rfl dX5_back_17 ?_
    refine kl_z_le (tgt := 25) hx hb (by omega) dX5_back_20 (by decide) (fun c20 => ?_) (fun c20 => absurd c20 (by omega))
    obtain ⟨m7, hm7⟩ : ∃ m7, nM = m7 + 1 := ⟨nM - 1, by omega⟩
    have hkm := hkR m7 (by omega)
    refine lv_aload_n hx hb dX5_back_25 rfl (lv_at hl 0 rfl) ?_
    refine kl_cVv (C := RX5) (i := 26) (As := []) (rest := []) ⟨hx, hb, hml, hown, hts⟩ (c_X5_remember l G B _ f2 q28 q29 q30 q31 q32 (by omega)) (cwV 0 hts gX5_back_X5_remember rfl rfl rfl (by decide +kernel) ⟨Nat.le_of_ble_eq_true rfl, Nat.le_of_ble_eq_true rfl⟩) hK hP f2 rfl rfl hl.1 rfl (Nat.le_of_ble_eq_true rfl) dX5_back_26 ⟨Nat.le_of_ble_eq_true rfl, Nat.le_of_ble_eq_true rfl⟩ (fun w4 H locs q5 hP => ?_)
    obtain ⟨f7, ⟨sO, sD, sG, f8, f9, f10, hsO, hsD⟩, fr11⟩ := q5
    have q27 : w4 27 = some (kl_aI G 4 ((fun t => nI (cn t)))) := (fr11 _ (by decide) (by decide) (by decide) (by decide)).trans q27
    have q28 : w4 28 = some (kl_aI G 24 O) := (fr11 _ (by decide) (by decide) (by decide) (by decide)).trans q28
    have q29 : w4 29 = some (kl_aI G 96 D) := (fr11 _ (by decide) (by decide) (by decide) (by decide)).trans q29
    have q33 : w4 33 = some (kl_aI G 7 lch) := (fr11 _ (by decide) (by decide) (by decide) (by decide)).trans q33
    have q34 : w4 34 = some (kl_aI G 7 ((fun t => nI (lco t)))) := (fr11 _ (by decide) (by decide) (by decide) (by decide)).trans q34
    have q35 : w4 35 = some (kl_aI G 7 lpa) := (fr11 _ (by decide) (by decide) (by decide) (by decide)).trans q35
    have q36 : w4 36 = some (kl_aI G 7 lwy) := (fr11 _ (by decide) (by decide) (by decide) (by decide)).trans q36
    have q37 : w4 37 = some (kl_aI G 5 stb) := (fr11 _ (by decide) (by decide) (by decide) (by decide)).trans q37
    have q38 : w4 38 = some (kl_aI G 5 ((fun t => nI (sco t)))) := (fr11 _ (by decide) (by decide) (by decide) (by decide)).trans q38
    have q39 : w4 39 = some (kl_aI G 5 ctb) := (fr11 _ (by decide) (by decide) (by decide) (by decide)).trans q39
    have q40 : w4 40 = some (kl_aI G 5 ((fun t => nI (cln t)))) := (fr11 _ (by decide) (by decide) (by decide) (by decide)).trans q40
    have q41 : w4 41 = some (kl_aI G 50 ((fun t => nI (cw t)))) := (fr11 _ (by decide) (by decide) (by decide) (by decide)).trans q41
    have q43 : w4 43 = some (kl_aI G 12 pl) := (fr11 _ (by decide) (by decide) (by decide) (by decide)).trans q43
    have q44 : w4 44 = some (kl_aI G 4 ((fun t => nI (kR t)))) := (fr11 _ (by decide) (by decide) (by decide) (by decide)).trans q44
    have q45 : w4 45 = some (kl_aI G 96 kO) := (fr11 _ (by decide) (by decide) (by decide) (by decide)).trans q45
    have q46 : w4 46 = some (kl_aI G 384 kD) := (fr11 _ (by decide) (by decide) (by decide) (by decide)).trans q46
    have f7 : w4 26 = some (.inr (5, [.int (nI 0), .int rs, .int (nI nT), .ref (B + 27), .int (nI n), .ref (B + 28), .ref (B + 29), .int (nI n), .ref (B + 30), .ref (B + 31), .ref (B + 32), .int (nI nL), .ref (B + 33), .ref (B + 34), .ref (B + 35), .ref (B + 36), .int (nI nS), .ref (B + 37), .ref (B + 38), .int (nI nC), .ref (B + 39), .ref (B + 40), .ref (B + 41), .int (nI nW), .ref (B + 42), .int hi, .ref (B + 43), .int (nI nM), .ref (B + 44), .ref (B + 45), .ref (B + 46)])) := f7
    have f8 : w4 30 = some (kl_aI G 24 sO) := f8
    have f9 : w4 31 = some (kl_aI G 96 sD) := f9
    have f10 : w4 32 = some (kl_aZ G 24 sG) := f10
    have frm : ∀ j : Nat, j ≠ 26 → j ≠ 28 → j ≠ 29 → j ≠ 30 → j ≠ 31 → j ≠ 32 → j ≠ 43 → w4 j = w j := fun j k0 k1 k2 k3 k4 k5 k6 => (fr11 j k0 k3 k4 k5).trans (frm j k0 k1 k2 k3 k4 k5 k6)
    refine lv_aload_n hx hb dX5_back_29 rfl (lv_at hl 0 rfl) ?_
    refine kl_get (C := RX5) (T := TX5) (N := 31) (ci := 5) hx hb hts hinX5 hown hK hP f7 rfl 27 (by decide) (hts (.fieldLink RX5 159 "KinLedgerModel" "kept" "I") (by decide +kernel)) (fun _ h9 => h9) rfl dX5_back_30 ?_
    refine lv_iconst (v := nI 1) hx hb dX5_back_33 (by decide) ?_
    refine lv_isub hx hb dX5_back_34 ?_
    refine kl_top (z := nI m7) (by first | exact pk_sub (by omega) | (rw [pk_sub (by omega)]; congr 1; omega)) ?_
    refine lv_istore_n (lv' := [(1, .int (nI m7)), (0, .ref (B + 26))]) hx hb dX5_back_35 rfl hl (by decide) rfl (fun ls hl => ?_)
    refine lv_aload_n hx hb dX5_back_36 rfl (lv_at hl 1 rfl) ?_
    refine lv_aload_n hx hb dX5_back_37 rfl (lv_at hl 1 rfl) ?_
    refine kl_get (C := RX5) (T := TX5) (N := 31) (ci := 5) hx hb hts hinX5 hown hK hP f7 rfl 28 (by decide) (hts (.fieldLink RX5 62 "KinLedgerModel" "keptRows" "[I") (by decide +kernel)) (fun _ h9 => h9) rfl dX5_back_38 ?_
    refine lv_iload_n hx hb dX5_back_41 rfl (lv_at hl 0 rfl) ?_
    refine kl_iald hx hb hK hP q44 (by omega) (by omega) dX5_back_42 ?_
    refine kl_top (z := nI (kR m7)) rfl ?_
    refine kl_put (C := RX5) (T := TX5) (N := 31) (ci := 5) (v := .int (nI (kR m7))) (ty := .int) hx hb hts hinX5 tyX5 tyX5_ok nmX5 hown hK hP f7 rfl 4 (by decide) (hts (.fieldLink RX5 82 "KinLedgerModel" "rows" "I") (by decide +kernel)) (fun _ h9 => h9) rfl (by decide +kernel) rfl rfl (Nat.le_of_ble_eq_true rfl) dX5_back_43 (fun w12 H locs f13 fr14 hzw12 hP => ?_)
    have f13 : w12 26 = some (.inr (5, [.int (nI 0), .int rs, .int (nI nT), .ref (B + 27), .int (nI (kR m7)), .ref (B + 28), .ref (B + 29), .int (nI n), .ref (B + 30), .ref (B + 31), .ref (B + 32), .int (nI nL), .ref (B + 33), .ref (B + 34), .ref (B + 35), .ref (B + 36), .int (nI nS), .ref (B + 37), .ref (B + 38), .int (nI nC), .ref (B + 39), .ref (B + 40), .ref (B + 41), .int (nI nW), .ref (B + 42), .int hi, .ref (B + 43), .int (nI nM), .ref (B + 44), .ref (B + 45), .ref (B + 46)])) := f13
    have q27 : w12 27 = some (kl_aI G 4 ((fun t => nI (cn t)))) := (fr14 _ (by decide)).trans q27
    have q28 : w12 28 = some (kl_aI G 24 O) := (fr14 _ (by decide)).trans q28
    have q29 : w12 29 = some (kl_aI G 96 D) := (fr14 _ (by decide)).trans q29
    have f8 : w12 30 = some (kl_aI G 24 sO) := (fr14 _ (by decide)).trans f8
    have f9 : w12 31 = some (kl_aI G 96 sD) := (fr14 _ (by decide)).trans f9
    have f10 : w12 32 = some (kl_aZ G 24 sG) := (fr14 _ (by decide)).trans f10
    have q33 : w12 33 = some (kl_aI G 7 lch) := (fr14 _ (by decide)).trans q33
    have q34 : w12 34 = some (kl_aI G 7 ((fun t => nI (lco t)))) := (fr14 _ (by decide)).trans q34
    have q35 : w12 35 = some (kl_aI G 7 lpa) := (fr14 _ (by decide)).trans q35
    have q36 : w12 36 = some (kl_aI G 7 lwy) := (fr14 _ (by decide)).trans q36
    have q37 : w12 37 = some (kl_aI G 5 stb) := (fr14 _ (by decide)).trans q37
    have q38 : w12 38 = some (kl_aI G 5 ((fun t => nI (sco t)))) := (fr14 _ (by decide)).trans q38
    have q39 : w12 39 = some (kl_aI G 5 ctb) := (fr14 _ (by decide)).trans q39
    have q40 : w12 40 = some (kl_aI G 5 ((fun t => nI (cln t)))) := (fr14 _ (by decide)).trans q40
    have q41 : w12 41 = some (kl_aI G 50 ((fun t => nI (cw t)))) := (fr14 _ (by decide)).trans q41
    have q43 : w12 43 = some (kl_aI G 12 pl) := (fr14 _ (by decide)).trans q43
    have q44 : w12 44 = some (kl_aI G 4 ((fun t => nI (kR t)))) := (fr14 _ (by decide)).trans q44
    have q45 : w12 45 = some (kl_aI G 96 kO) := (fr14 _ (by decide)).trans q45
    have q46 : w12 46 = some (kl_aI G 384 kD) := (fr14 _ (by decide)).trans q46
    have frm : ∀ j : Nat, j ≠ 26 → j ≠ 28 → j ≠ 29 → j ≠ 30 → j ≠ 31 → j ≠ 32 → j ≠ 43 → w12 j = w j := fun j k0 k1 k2 k3 k4 k5 k6 => (fr14 j k0).trans (frm j k0 k1 k2 k3 k4 k5 k6)
    refine lv_iconst (v := nI 0) hx hb dX5_back_46 (by decide) ?_
    refine lv_istore_n (lv' := [(2, .int (nI 0)), (1, .int (nI m7)), (0, .ref (B + 26))]) hx hb dX5_back_47 rfl hl (by decide) rfl (fun ls hl => ?_)
    have lp48 : ∀ (n48 : Nat) (r9 : Nat) (o2 : Nat → Int32), kR m7 - r9 < n48 → (r9 ≤ kR m7) → (∀ q, q < r9 → o2 q = kO (24 * m7 + q)) → ∀ (w1 : kl_M) (H : Heap) (locs : List Loc), w1 26 = some (.inr (5, [.int (nI 0), .int rs, .int (nI nT), .ref (B + 27), .int (nI (kR m7)), .ref (B + 28), .ref (B + 29), .int (nI n), .ref (B + 30), .ref (B + 31), .ref (B + 32), .int (nI nL), .ref (B + 33), .ref (B + 34), .ref (B + 35), .ref (B + 36), .int (nI nS), .ref (B + 37), .ref (B + 38), .int (nI nC), .ref (B + 39), .ref (B + 40), .ref (B + 41), .int (nI nW), .ref (B + 42), .int hi, .ref (B + 43), .int (nI nM), .ref (B + 44), .ref (B + 45), .ref (B + 46)])) → w1 27 = some (kl_aI G 4 ((fun t => nI (cn t)))) → w1 28 = some (kl_aI G 24 o2) → w1 29 = some (kl_aI G 96 D) → w1 30 = some (kl_aI G 24 sO) → w1 31 = some (kl_aI G 96 sD) → w1 32 = some (kl_aZ G 24 sG) → w1 33 = some (kl_aI G 7 lch) → w1 34 = some (kl_aI G 7 ((fun t => nI (lco t)))) → w1 35 = some (kl_aI G 7 lpa) → w1 36 = some (kl_aI G 7 lwy) → w1 37 = some (kl_aI G 5 stb) → w1 38 = some (kl_aI G 5 ((fun t => nI (sco t)))) → w1 39 = some (kl_aI G 5 ctb) → w1 40 = some (kl_aI G 5 ((fun t => nI (cln t)))) → w1 41 = some (kl_aI G 50 ((fun t => nI (cw t)))) → w1 43 = some (kl_aI G 12 pl) → w1 44 = some (kl_aI G 4 ((fun t => nI (kR t)))) → w1 45 = some (kl_aI G 96 kO) → w1 46 = some (kl_aI G 384 kD) → (∀ j : Nat, j ≠ 26 → j ≠ 28 → j ≠ 29 → j ≠ 30 → j ≠ 31 → j ≠ 32 → j ≠ 43 → w1 j = w j) → kl_S G B w1 s.heap H locs → ∀ ls : Array Slot, lv_has ls 3 [(0, .ref (B + 26)), (1, .int (nI m7)), (2, .int (nI r9))] → W pg l e rm_X5_back s m ([.ref (B + 26)] : List Value).toArray below meth cd H locs (0 + 0) (0 + 0) (MQ below (kl_Qi G B (fun r w1 => (nM = 0 ∧ w1 26 = some (.inr (5, [.int (nI 1), .int rs, .int (nI nT), .ref (B + 27), .int (nI n), .ref (B + 28), .ref (B + 29), .int (nI on), .ref (B + 30), .ref (B + 31), .ref (B + 32), .int (nI nL), .ref (B + 33), .ref (B + 34), .ref (B + 35), .ref (B + 36), .int (nI nS), .ref (B + 37), .ref (B + 38), .int (nI nC), .ref (B + 39), .ref (B + 40), .ref (B + 41), .int (nI nW), .ref (B + 42), .int hi, .ref (B + 43), .int (nI nM), .ref (B + 44), .ref (B + 45), .ref (B + 46)])) ∧ md_sm G w1 n O D ∧ ∀ j : Nat, j ≠ 26 → j ≠ 28 → j ≠ 29 → j ≠ 30 → j ≠ 31 → j ≠ 32 → j ≠ 43 → w1 j = w j) ∨ (∃ (m : Nat) (O3 D3 : Nat → Int32), nM = m + 1 ∧ (∀ q, q < kR m → O3 q = kO (24 * m + q)) ∧ (∀ q, q < 4 * kR m → D3 q = kD (96 * m + q)) ∧ r = nI m ∧ md_sw 0 (mt_why (md_T (kR m) O3) D3 nT nS stb sco nL lch lco lpa nC ctb (fun j i => cw (10 * j + i)) cln) (nI 0) ∧ (∃ h2 on2, w1 26 = some (.inr (5, [.int (nI 0), .int rs, .int (nI nT), .ref (B + 27), .int (nI (kR m)), .ref (B + 28), .ref (B + 29), .int (nI on2), .ref (B + 30), .ref (B + 31), .ref (B + 32), .int (nI nL), .ref (B + 33), .ref (B + 34), .ref (B + 35), .ref (B + 36), .int (nI nS), .ref (B + 37), .ref (B + 38), .int (nI nC), .ref (B + 39), .ref (B + 40), .ref (B + 41), .int (nI nW), .ref (B + 42), .int h2, .ref (B + 43), .int (nI m), .ref (B + 44), .ref (B + 45), .ref (B + 46)]))) ∧ w1 28 = some (kl_aI G 24 O3) ∧ w1 29 = some (kl_aI G 96 D3) ∧ md_jk G w1 ∧ ∀ j : Nat, j ≠ 26 → j ≠ 28 → j ≠ 29 → j ≠ 30 → j ≠ 31 → j ≠ 32 → j ≠ 43 → w1 j = w j) ∨ (∃ (m : Nat) (O3 D3 : Nat → Int32), nM = m + 1 ∧ (∀ q, q < kR m → O3 q = kO (24 * m + q)) ∧ (∀ q, q < 4 * kR m → D3 q = kD (96 * m + q)) ∧ ∃ y2, y2 ≠ 0 ∧ md_sw 0 (mt_why (md_T (kR m) O3) D3 nT nS stb sco nL lch lco lpa nC ctb (fun j i => cw (10 * j + i)) cln) y2 ∧ (∃ h2 on2, w1 26 = some (.inr (5, [.int (nI 2), .int y2, .int (nI nT), .ref (B + 27), .int (nI n), .ref (B + 28), .ref (B + 29), .int (nI on2), .ref (B + 30), .ref (B + 31), .ref (B + 32), .int (nI nL), .ref (B + 33), .ref (B + 34), .ref (B + 35), .ref (B + 36), .int (nI nS), .ref (B + 37), .ref (B + 38), .int (nI nC), .ref (B + 39), .ref (B + 40), .ref (B + 41), .int (nI nW), .ref (B + 42), .int h2, .ref (B + 43), .int (nI nM), .ref (B + 44), .ref (B + 45), .ref (B + 46)]))) ∧ md_sm G w1 n O D ∧ ∀ j : Nat, j ≠ 26 → j ≠ 28 → j ≠ 29 → j ≠ 30 → j ≠ 31 → j ≠ 32 → j ≠ 43 → w1 j = w j))) ([.ref (B + 26)] : List Value).toArray s 0 0 (kl_fr B)) (F0 m 48 ls []) := by
      intro n48
      induction n48 with
      | zero => intro r9 o2 hm; exact absurd hm (Nat.not_lt_zero _)
      | succ n48 ih48 =>
        intro r9 o2 hm hr9 ho w1 H locs f13 q27 q28 q29 f8 f9 f10 q33 q34 q35 q36 q37 q38 q39 q40 q41 q43 q44 q45 q46 frm hP ls hl
        refine lv_iload_n hx hb dX5_back_48 rfl (lv_at hl 2 rfl) ?_
        refine lv_aload_n hx hb dX5_back_49 rfl (lv_at hl 0 rfl) ?_
        refine kl_get (C := RX5) (T := TX5) (N := 31) (ci := 5) hx hb hts hinX5 hown hK hP f13 rfl 4 (by decide) (hts (.fieldLink RX5 82 "KinLedgerModel" "rows" "I") (by decide +kernel)) (fun _ h9 => h9) rfl dX5_back_50 ?_
        refine kl_ge (tgt := 79) hx hb (by omega) (by omega) dX5_back_53 (by decide) (fun c53 => ?_) (fun c53 => ?_)
        · refine lv_iconst (v := nI 0) hx hb dX5_back_79 (by decide) ?_
          refine lv_istore_n (lv' := [(2, .int (nI 0)), (0, .ref (B + 26)), (1, .int (nI m7))]) hx hb dX5_back_80 rfl hl (by decide) rfl (fun ls hl => ?_)
          have lp81 : ∀ (n81 : Nat) (k9 : Nat) (d2 : Nat → Int32), 4 * kR m7 - k9 < n81 → (k9 ≤ 4 * kR m7) → (∀ q, q < k9 → d2 q = kD (96 * m7 + q)) → ∀ (w1 : kl_M) (H : Heap) (locs : List Loc), w1 26 = some (.inr (5, [.int (nI 0), .int rs, .int (nI nT), .ref (B + 27), .int (nI (kR m7)), .ref (B + 28), .ref (B + 29), .int (nI n), .ref (B + 30), .ref (B + 31), .ref (B + 32), .int (nI nL), .ref (B + 33), .ref (B + 34), .ref (B + 35), .ref (B + 36), .int (nI nS), .ref (B + 37), .ref (B + 38), .int (nI nC), .ref (B + 39), .ref (B + 40), .ref (B + 41), .int (nI nW), .ref (B + 42), .int hi, .ref (B + 43), .int (nI nM), .ref (B + 44), .ref (B + 45), .ref (B + 46)])) → w1 27 = some (kl_aI G 4 ((fun t => nI (cn t)))) → w1 28 = some (kl_aI G 24 o2) → w1 29 = some (kl_aI G 96 d2) → w1 30 = some (kl_aI G 24 sO) → w1 31 = some (kl_aI G 96 sD) → w1 32 = some (kl_aZ G 24 sG) → w1 33 = some (kl_aI G 7 lch) → w1 34 = some (kl_aI G 7 ((fun t => nI (lco t)))) → w1 35 = some (kl_aI G 7 lpa) → w1 36 = some (kl_aI G 7 lwy) → w1 37 = some (kl_aI G 5 stb) → w1 38 = some (kl_aI G 5 ((fun t => nI (sco t)))) → w1 39 = some (kl_aI G 5 ctb) → w1 40 = some (kl_aI G 5 ((fun t => nI (cln t)))) → w1 41 = some (kl_aI G 50 ((fun t => nI (cw t)))) → w1 43 = some (kl_aI G 12 pl) → w1 44 = some (kl_aI G 4 ((fun t => nI (kR t)))) → w1 45 = some (kl_aI G 96 kO) → w1 46 = some (kl_aI G 384 kD) → (∀ j : Nat, j ≠ 26 → j ≠ 28 → j ≠ 29 → j ≠ 30 → j ≠ 31 → j ≠ 32 → j ≠ 43 → w1 j = w j) → kl_S G B w1 s.heap H locs → ∀ ls : Array Slot, lv_has ls 3 [(0, .ref (B + 26)), (1, .int (nI m7)), (2, .int (nI k9))] → W pg l e rm_X5_back s m ([.ref (B + 26)] : List Value).toArray below meth cd H locs (0 + 0) (0 + 0) (MQ below (kl_Qi G B (fun r w1 => (nM = 0 ∧ w1 26 = some (.inr (5, [.int (nI 1), .int rs, .int (nI nT), .ref (B + 27), .int (nI n), .ref (B + 28), .ref (B + 29), .int (nI on), .ref (B + 30), .ref (B + 31), .ref (B + 32), .int (nI nL), .ref (B + 33), .ref (B + 34), .ref (B + 35), .ref (B + 36), .int (nI nS), .ref (B + 37), .ref (B + 38), .int (nI nC), .ref (B + 39), .ref (B + 40), .ref (B + 41), .int (nI nW), .ref (B + 42), .int hi, .ref (B + 43), .int (nI nM), .ref (B + 44), .ref (B + 45), .ref (B + 46)])) ∧ md_sm G w1 n O D ∧ ∀ j : Nat, j ≠ 26 → j ≠ 28 → j ≠ 29 → j ≠ 30 → j ≠ 31 → j ≠ 32 → j ≠ 43 → w1 j = w j) ∨ (∃ (m : Nat) (O3 D3 : Nat → Int32), nM = m + 1 ∧ (∀ q, q < kR m → O3 q = kO (24 * m + q)) ∧ (∀ q, q < 4 * kR m → D3 q = kD (96 * m + q)) ∧ r = nI m ∧ md_sw 0 (mt_why (md_T (kR m) O3) D3 nT nS stb sco nL lch lco lpa nC ctb (fun j i => cw (10 * j + i)) cln) (nI 0) ∧ (∃ h2 on2, w1 26 = some (.inr (5, [.int (nI 0), .int rs, .int (nI nT), .ref (B + 27), .int (nI (kR m)), .ref (B + 28), .ref (B + 29), .int (nI on2), .ref (B + 30), .ref (B + 31), .ref (B + 32), .int (nI nL), .ref (B + 33), .ref (B + 34), .ref (B + 35), .ref (B + 36), .int (nI nS), .ref (B + 37), .ref (B + 38), .int (nI nC), .ref (B + 39), .ref (B + 40), .ref (B + 41), .int (nI nW), .ref (B + 42), .int h2, .ref (B + 43), .int (nI m), .ref (B + 44), .ref (B + 45), .ref (B + 46)]))) ∧ w1 28 = some (kl_aI G 24 O3) ∧ w1 29 = some (kl_aI G 96 D3) ∧ md_jk G w1 ∧ ∀ j : Nat, j ≠ 26 → j ≠ 28 → j ≠ 29 → j ≠ 30 → j ≠ 31 → j ≠ 32 → j ≠ 43 → w1 j = w j) ∨ (∃ (m : Nat) (O3 D3 : Nat → Int32), nM = m + 1 ∧ (∀ q, q < kR m → O3 q = kO (24 * m + q)) ∧ (∀ q, q < 4 * kR m → D3 q = kD (96 * m + q)) ∧ ∃ y2, y2 ≠ 0 ∧ md_sw 0 (mt_why (md_T (kR m) O3) D3 nT nS stb sco nL lch lco lpa nC ctb (fun j i => cw (10 * j + i)) cln) y2 ∧ (∃ h2 on2, w1 26 = some (.inr (5, [.int (nI 2), .int y2, .int (nI nT), .ref (B + 27), .int (nI n), .ref (B + 28), .ref (B + 29), .int (nI on2), .ref (B + 30), .ref (B + 31), .ref (B + 32), .int (nI nL), .ref (B + 33), .ref (B + 34), .ref (B + 35), .ref (B + 36), .int (nI nS), .ref (B + 37), .ref (B + 38), .int (nI nC), .ref (B + 39), .ref (B + 40), .ref (B + 41), .int (nI nW), .ref (B + 42), .int h2, .ref (B + 43), .int (nI nM), .ref (B + 44), .ref (B + 45), .ref (B + 46)]))) ∧ md_sm G w1 n O D ∧ ∀ j : Nat, j ≠ 26 → j ≠ 28 → j ≠ 29 → j ≠ 30 → j ≠ 31 → j ≠ 32 → j ≠ 43 → w1 j = w j))) ([.ref (B + 26)] : List Value).toArray s 0 0 (kl_fr B)) (F0 m 81 ls []) := by
            intro n81
            induction n81 with
            | zero => intro k9 d2 hm; exact absurd hm (Nat.not_lt_zero _)
            | succ n81 ih81 =>
              intro k9 d2 hm hk9 hd w1 H locs f13 q27 q28 q29 f8 f9 f10 q33 q34 q35 q36 q37 q38 q39 q40 q41 q43 q44 q45 q46 frm hP ls hl
              refine lv_iload_n hx hb dX5_back_81 rfl (lv_at hl 2 rfl) ?_
              refine lv_iconst (v := nI 4) hx hb dX5_back_82 (by decide) ?_
              refine lv_aload_n hx hb dX5_back_83 rfl (lv_at hl 0 rfl) ?_
              refine kl_get (C := RX5) (T := TX5) (N := 31) (ci := 5) hx hb hts hinX5 hown hK hP f13 rfl 4 (by decide) (hts (.fieldLink RX5 82 "KinLedgerModel" "rows" "I") (by decide +kernel)) (fun _ h9 => h9) rfl dX5_back_84 ?_
              refine lv_imul hx hb dX5_back_87 ?_
              refine kl_top (z := nI (4 * (kR m7))) (pk_mul _ _) ?_
              refine kl_ge (tgt := 114) hx hb (by omega) (by omega) dX5_back_88 (by decide) (fun c88 => ?_) (fun c88 => ?_)
              · refine lv_aload_n hx hb dX5_back_114 rfl (lv_at hl 0 rfl) ?_
                refine lv_aload_n hx hb dX5_back_115 rfl (lv_at hl 0 rfl) ?_
                refine lv_iconst (v := nI 0) hx hb dX5_back_116 (by decide) ?_
                refine lv_iconst (v := nI 2) hx hb dX5_back_117 (by decide) ?_
                refine kl_cVi (C := RX5) (i := 26) (As := [.int (nI 0), .int (nI 2)]) (rest := [.ref (B + 26)]) ⟨hx, hb, hml, hown, hts⟩ (c_X5_settle l G B _ ccol 0 2 f13 q28 q29 f8 f9 q33 q34 q35 q36 q37 q38 q39 q40 q41 q43 ⟨by omega, by omega, by omega, by omega, by omega⟩ hrp (by omega) (by omega) (by omega)) (cwV 2 hts gX5_back_X5_settle rfl rfl rfl (by decide +kernel) ⟨Nat.le_of_ble_eq_true rfl, Nat.le_of_ble_eq_true rfl⟩) hK hP f13 rfl rfl hl.1 rfl (Nat.le_of_ble_eq_true rfl) dX5_back_118 ⟨Nat.le_of_ble_eq_true rfl, Nat.le_of_ble_eq_true rfl⟩ (fun r17 w15 H locs q16 hP => ?_)
                rcases q16 with ⟨hsw, rfl, ⟨h9, f18⟩, f19, f20, ⟨p9, f21⟩, fr22⟩ | ⟨y2, hy0, hsw, rfl, ⟨h9, f18⟩, ⟨O2, D2, f19, f20, hO2, hD2⟩, ⟨p9, f21⟩, fr22⟩
                · have q27 : w15 27 = some (kl_aI G 4 ((fun t => nI (cn t)))) := (fr22 _ (by decide) (by decide) (by decide) (by decide)).trans q27
                  have f8 : w15 30 = some (kl_aI G 24 sO) := (fr22 _ (by decide) (by decide) (by decide) (by decide)).trans f8
                  have f9 : w15 31 = some (kl_aI G 96 sD) := (fr22 _ (by decide) (by decide) (by decide) (by decide)).trans f9
                  have f10 : w15 32 = some (kl_aZ G 24 sG) := (fr22 _ (by decide) (by decide) (by decide) (by decide)).trans f10
                  have q33 : w15 33 = some (kl_aI G 7 lch) := (fr22 _ (by decide) (by decide) (by decide) (by decide)).trans q33
                  have q34 : w15 34 = some (kl_aI G 7 ((fun t => nI (lco t)))) := (fr22 _ (by decide) (by decide) (by decide) (by decide)).trans q34
                  have q35 : w15 35 = some (kl_aI G 7 lpa) := (fr22 _ (by decide) (by decide) (by decide) (by decide)).trans q35
                  have q36 : w15 36 = some (kl_aI G 7 lwy) := (fr22 _ (by decide) (by decide) (by decide) (by decide)).trans q36
                  have q37 : w15 37 = some (kl_aI G 5 stb) := (fr22 _ (by decide) (by decide) (by decide) (by decide)).trans q37
                  have q38 : w15 38 = some (kl_aI G 5 ((fun t => nI (sco t)))) := (fr22 _ (by decide) (by decide) (by decide) (by decide)).trans q38
                  have q39 : w15 39 = some (kl_aI G 5 ctb) := (fr22 _ (by decide) (by decide) (by decide) (by decide)).trans q39
                  have q40 : w15 40 = some (kl_aI G 5 ((fun t => nI (cln t)))) := (fr22 _ (by decide) (by decide) (by decide) (by decide)).trans q40
                  have q41 : w15 41 = some (kl_aI G 50 ((fun t => nI (cw t)))) := (fr22 _ (by decide) (by decide) (by decide) (by decide)).trans q41
                  have q44 : w15 44 = some (kl_aI G 4 ((fun t => nI (kR t)))) := (fr22 _ (by decide) (by decide) (by decide) (by decide)).trans q44
                  have q45 : w15 45 = some (kl_aI G 96 kO) := (fr22 _ (by decide) (by decide) (by decide) (by decide)).trans q45
                  have q46 : w15 46 = some (kl_aI G 384 kD) := (fr22 _ (by decide) (by decide) (by decide) (by decide)).trans q46
                  have f18 : w15 26 = some (.inr (5, [.int (nI 0), .int rs, .int (nI nT), .ref (B + 27), .int (nI (kR m7)), .ref (B + 28), .ref (B + 29), .int (nI n), .ref (B + 30), .ref (B + 31), .ref (B + 32), .int (nI nL), .ref (B + 33), .ref (B + 34), .ref (B + 35), .ref (B + 36), .int (nI nS), .ref (B + 37), .ref (B + 38), .int (nI nC), .ref (B + 39), .ref (B + 40), .ref (B + 41), .int (nI nW), .ref (B + 42), .int h9, .ref (B + 43), .int (nI nM), .ref (B + 44), .ref (B + 45), .ref (B + 46)])) := f18
                  have f19 : w15 28 = some (kl_aI G 24 o2) := f19
                  have f20 : w15 29 = some (kl_aI G 96 d2) := f20
                  have f21 : w15 43 = some (kl_aI G 12 p9) := f21
                  have frm : ∀ j : Nat, j ≠ 26 → j ≠ 28 → j ≠ 29 → j ≠ 30 → j ≠ 31 → j ≠ 32 → j ≠ 43 → w15 j = w j := fun j k0 k1 k2 k3 k4 k5 k6 => (fr22 j k0 k1 k2 k6).trans (frm j k0 k1 k2 k3 k4 k5 k6)
                  refine kl_put (C := RX5) (T := TX5) (N := 31) (ci := 5) (v := .int (nI 0)) (ty := .int) hx hb hts hinX5 tyX5 tyX5_ok nmX5 hown hK hP f18 rfl 0 (by decide) (hts (.fieldLink RX5 71 "KinLedgerModel" "code" "I") (by decide +kernel)) (fun _ h9 => h9) rfl (by decide +kernel) rfl rfl (Nat.le_of_ble_eq_true rfl) dX5_back_121 (fun w23 H locs f24 fr25 hzw23 hP => ?_)
                  have f24 : w23 26 = some (.inr (5, [.int (nI 0), .int rs, .int (nI nT), .ref (B + 27), .int (nI (kR m7)), .ref (B + 28), .ref (B + 29), .int (nI n), .ref (B + 30), .ref (B + 31), .ref (B + 32), .int (nI nL), .ref (B + 33), .ref (B + 34), .ref (B + 35), .ref (B + 36), .int (nI nS), .ref (B + 37), .ref (B + 38), .int (nI nC), .ref (B + 39), .ref (B + 40), .ref (B + 41), .int (nI nW), .ref (B + 42), .int h9, .ref (B + 43), .int (nI nM), .ref (B + 44), .ref (B + 45), .ref (B + 46)])) := f24
                  have q27 : w23 27 = some (kl_aI G 4 ((fun t => nI (cn t)))) := (fr25 _ (by decide)).trans q27
                  have f19 : w23 28 = some (kl_aI G 24 o2) := (fr25 _ (by decide)).trans f19
                  have f20 : w23 29 = some (kl_aI G 96 d2) := (fr25 _ (by decide)).trans f20
                  have f8 : w23 30 = some (kl_aI G 24 sO) := (fr25 _ (by decide)).trans f8
                  have f9 : w23 31 = some (kl_aI G 96 sD) := (fr25 _ (by decide)).trans f9
                  have f10 : w23 32 = some (kl_aZ G 24 sG) := (fr25 _ (by decide)).trans f10
                  have q33 : w23 33 = some (kl_aI G 7 lch) := (fr25 _ (by decide)).trans q33
                  have q34 : w23 34 = some (kl_aI G 7 ((fun t => nI (lco t)))) := (fr25 _ (by decide)).trans q34
                  have q35 : w23 35 = some (kl_aI G 7 lpa) := (fr25 _ (by decide)).trans q35
                  have q36 : w23 36 = some (kl_aI G 7 lwy) := (fr25 _ (by decide)).trans q36
                  have q37 : w23 37 = some (kl_aI G 5 stb) := (fr25 _ (by decide)).trans q37
                  have q38 : w23 38 = some (kl_aI G 5 ((fun t => nI (sco t)))) := (fr25 _ (by decide)).trans q38
                  have q39 : w23 39 = some (kl_aI G 5 ctb) := (fr25 _ (by decide)).trans q39
                  have q40 : w23 40 = some (kl_aI G 5 ((fun t => nI (cln t)))) := (fr25 _ (by decide)).trans q40
                  have q41 : w23 41 = some (kl_aI G 50 ((fun t => nI (cw t)))) := (fr25 _ (by decide)).trans q41
                  have f21 : w23 43 = some (kl_aI G 12 p9) := (fr25 _ (by decide)).trans f21
                  have q44 : w23 44 = some (kl_aI G 4 ((fun t => nI (kR t)))) := (fr25 _ (by decide)).trans q44
                  have q45 : w23 45 = some (kl_aI G 96 kO) := (fr25 _ (by decide)).trans q45
                  have q46 : w23 46 = some (kl_aI G 384 kD) := (fr25 _ (by decide)).trans q46
                  have frm : ∀ j : Nat, j ≠ 26 → j ≠ 28 → j ≠ 29 → j ≠ 30 → j ≠ 31 → j ≠ 32 → j ≠ 43 → w23 j = w j := fun j k0 k1 k2 k3 k4 k5 k6 => (fr25 j k0).trans (frm j k0 k1 k2 k3 k4 k5 k6)
                  refine lv_aload_n hx hb dX5_back_124 rfl (lv_at hl 0 rfl) ?_
                  refine kl_get (C := RX5) (T := TX5) (N := 31) (ci := 5) hx hb hts hinX5 hown hK hP f24 rfl 0 (by decide) (hts (.fieldLink RX5 71 "KinLedgerModel" "code" "I") (by decide +kernel)) (fun _ h9 => h9) rfl dX5_back_125 ?_
                  refine kl_z_le (tgt := 133) hx hb (by omega) dX5_back_128 (by decide) (fun c128 => ?_) (fun c128 => absurd c128 (by omega))
                  refine lv_aload_n hx hb dX5_back_133 rfl (lv_at hl 0 rfl) ?_
                  refine lv_dup hx hb dX5_back_134 rfl ?_
                  refine kl_get (C := RX5) (T := TX5) (N := 31) (ci := 5) hx hb hts hinX5 hown hK hP f24 rfl 27 (by decide) (hts (.fieldLink RX5 159 "KinLedgerModel" "kept" "I") (by decide +kernel)) (fun _ h9 => h9) rfl dX5_back_135 ?_
                  refine lv_iconst (v := nI 1) hx hb dX5_back_138 (by decide) ?_
                  refine lv_isub hx hb dX5_back_139 ?_
                  refine kl_top (z := nI m7) (by first | exact pk_sub (by omega) | (rw [pk_sub (by omega)]; congr 1; omega)) ?_
                  refine kl_put (C := RX5) (T := TX5) (N := 31) (ci := 5) (v := .int (nI m7)) (ty := .int) hx hb hts hinX5 tyX5 tyX5_ok nmX5 hown hK hP f24 rfl 27 (by decide) (hts (.fieldLink RX5 159 "KinLedgerModel" "kept" "I") (by decide +kernel)) (fun _ h9 => h9) rfl (by decide +kernel) rfl rfl (Nat.le_of_ble_eq_true rfl) dX5_back_140 (fun w26 H locs f27 fr28 hzw26 hP => ?_)
                  have f27 : w26 26 = some (.inr (5, [.int (nI 0), .int rs, .int (nI nT), .ref (B + 27), .int (nI (kR m7)), .ref (B + 28), .ref (B + 29), .int (nI n), .ref (B + 30), .ref (B + 31), .ref (B + 32), .int (nI nL), .ref (B + 33), .ref (B + 34), .ref (B + 35), .ref (B + 36), .int (nI nS), .ref (B + 37), .ref (B + 38), .int (nI nC), .ref (B + 39), .ref (B + 40), .ref (B + 41), .int (nI nW), .ref (B + 42), .int h9, .ref (B + 43), .int (nI m7), .ref (B + 44), .ref (B + 45), .ref (B + 46)])) := f27
                  have q27 : w26 27 = some (kl_aI G 4 ((fun t => nI (cn t)))) := (fr28 _ (by decide)).trans q27
                  have f19 : w26 28 = some (kl_aI G 24 o2) := (fr28 _ (by decide)).trans f19
                  have f20 : w26 29 = some (kl_aI G 96 d2) := (fr28 _ (by decide)).trans f20
                  have f8 : w26 30 = some (kl_aI G 24 sO) := (fr28 _ (by decide)).trans f8
                  have f9 : w26 31 = some (kl_aI G 96 sD) := (fr28 _ (by decide)).trans f9
                  have f10 : w26 32 = some (kl_aZ G 24 sG) := (fr28 _ (by decide)).trans f10
                  have q33 : w26 33 = some (kl_aI G 7 lch) := (fr28 _ (by decide)).trans q33
                  have q34 : w26 34 = some (kl_aI G 7 ((fun t => nI (lco t)))) := (fr28 _ (by decide)).trans q34
                  have q35 : w26 35 = some (kl_aI G 7 lpa) := (fr28 _ (by decide)).trans q35
                  have q36 : w26 36 = some (kl_aI G 7 lwy) := (fr28 _ (by decide)).trans q36
                  have q37 : w26 37 = some (kl_aI G 5 stb) := (fr28 _ (by decide)).trans q37
                  have q38 : w26 38 = some (kl_aI G 5 ((fun t => nI (sco t)))) := (fr28 _ (by decide)).trans q38
                  have q39 : w26 39 = some (kl_aI G 5 ctb) := (fr28 _ (by decide)).trans q39
                  have q40 : w26 40 = some (kl_aI G 5 ((fun t => nI (cln t)))) := (fr28 _ (by decide)).trans q40
                  have q41 : w26 41 = some (kl_aI G 50 ((fun t => nI (cw t)))) := (fr28 _ (by decide)).trans q41
                  have f21 : w26 43 = some (kl_aI G 12 p9) := (fr28 _ (by decide)).trans f21
                  have q44 : w26 44 = some (kl_aI G 4 ((fun t => nI (kR t)))) := (fr28 _ (by decide)).trans q44
                  have q45 : w26 45 = some (kl_aI G 96 kO) := (fr28 _ (by decide)).trans q45
                  have q46 : w26 46 = some (kl_aI G 384 kD) := (fr28 _ (by decide)).trans q46
                  have frm : ∀ j : Nat, j ≠ 26 → j ≠ 28 → j ≠ 29 → j ≠ 30 → j ≠ 31 → j ≠ 32 → j ≠ 43 → w26 j = w j := fun j k0 k1 k2 k3 k4 k5 k6 => (fr28 j k0).trans (frm j k0 k1 k2 k3 k4 k5 k6)
                  refine lv_aload_n hx hb dX5_back_143 rfl (lv_at hl 0 rfl) ?_
                  refine kl_get (C := RX5) (T := TX5) (N := 31) (ci := 5) hx hb hts hinX5 hown hK hP f27 rfl 27 (by decide) (hts (.fieldLink RX5 159 "KinLedgerModel" "kept" "I") (by decide +kernel)) (fun _ h9 => h9) rfl dX5_back_144 ?_
                  exact kl_iret hx hb hr hlocks hP (Or.inr (Or.inl (⟨m7, o2, d2, hm7, fun q hq => ho q (by omega), fun q hq => hd q (by omega), rfl, hsw, ⟨_, _, f27⟩, f19, f20, ⟨_, _, _, _, f8, f9, f10, f21⟩, frm⟩))) dX5_back_147
                · have q27 : w15 27 = some (kl_aI G 4 ((fun t => nI (cn t)))) := (fr22 _ (by decide) (by decide) (by decide) (by decide)).trans q27
                  have f8 : w15 30 = some (kl_aI G 24 sO) := (fr22 _ (by decide) (by decide) (by decide) (by decide)).trans f8
                  have f9 : w15 31 = some (kl_aI G 96 sD) := (fr22 _ (by decide) (by decide) (by decide) (by decide)).trans f9
                  have f10 : w15 32 = some (kl_aZ G 24 sG) := (fr22 _ (by decide) (by decide) (by decide) (by decide)).trans f10
                  have q33 : w15 33 = some (kl_aI G 7 lch) := (fr22 _ (by decide) (by decide) (by decide) (by decide)).trans q33
                  have q34 : w15 34 = some (kl_aI G 7 ((fun t => nI (lco t)))) := (fr22 _ (by decide) (by decide) (by decide) (by decide)).trans q34
                  have q35 : w15 35 = some (kl_aI G 7 lpa) := (fr22 _ (by decide) (by decide) (by decide) (by decide)).trans q35
                  have q36 : w15 36 = some (kl_aI G 7 lwy) := (fr22 _ (by decide) (by decide) (by decide) (by decide)).trans q36
                  have q37 : w15 37 = some (kl_aI G 5 stb) := (fr22 _ (by decide) (by decide) (by decide) (by decide)).trans q37
                  have q38 : w15 38 = some (kl_aI G 5 ((fun t => nI (sco t)))) := (fr22 _ (by decide) (by decide) (by decide) (by decide)).trans q38
                  have q39 : w15 39 = some (kl_aI G 5 ctb) := (fr22 _ (by decide) (by decide) (by decide) (by decide)).trans q39
                  have q40 : w15 40 = some (kl_aI G 5 ((fun t => nI (cln t)))) := (fr22 _ (by decide) (by decide) (by decide) (by decide)).trans q40
                  have q41 : w15 41 = some (kl_aI G 50 ((fun t => nI (cw t)))) := (fr22 _ (by decide) (by decide) (by decide) (by decide)).trans q41
                  have q44 : w15 44 = some (kl_aI G 4 ((fun t => nI (kR t)))) := (fr22 _ (by decide) (by decide) (by decide) (by decide)).trans q44
                  have q45 : w15 45 = some (kl_aI G 96 kO) := (fr22 _ (by decide) (by decide) (by decide) (by decide)).trans q45
                  have q46 : w15 46 = some (kl_aI G 384 kD) := (fr22 _ (by decide) (by decide) (by decide) (by decide)).trans q46
                  have f18 : w15 26 = some (.inr (5, [.int (nI 0), .int y2, .int (nI nT), .ref (B + 27), .int (nI n), .ref (B + 28), .ref (B + 29), .int (nI n), .ref (B + 30), .ref (B + 31), .ref (B + 32), .int (nI nL), .ref (B + 33), .ref (B + 34), .ref (B + 35), .ref (B + 36), .int (nI nS), .ref (B + 37), .ref (B + 38), .int (nI nC), .ref (B + 39), .ref (B + 40), .ref (B + 41), .int (nI nW), .ref (B + 42), .int h9, .ref (B + 43), .int (nI nM), .ref (B + 44), .ref (B + 45), .ref (B + 46)])) := f18
                  have f19 : w15 28 = some (kl_aI G 24 O2) := f19
                  have f20 : w15 29 = some (kl_aI G 96 D2) := f20
                  have f21 : w15 43 = some (kl_aI G 12 p9) := f21
                  have frm : ∀ j : Nat, j ≠ 26 → j ≠ 28 → j ≠ 29 → j ≠ 30 → j ≠ 31 → j ≠ 32 → j ≠ 43 → w15 j = w j := fun j k0 k1 k2 k3 k4 k5 k6 => (fr22 j k0 k1 k2 k6).trans (frm j k0 k1 k2 k3 k4 k5 k6)
                  refine kl_put (C := RX5) (T := TX5) (N := 31) (ci := 5) (v := .int (nI 2)) (ty := .int) hx hb hts hinX5 tyX5 tyX5_ok nmX5 hown hK hP f18 rfl 0 (by decide) (hts (.fieldLink RX5 71 "KinLedgerModel" "code" "I") (by decide +kernel)) (fun _ h9 => h9) rfl (by decide +kernel) rfl rfl (Nat.le_of_ble_eq_true rfl) dX5_back_121 (fun w29 H locs f30 fr31 hzw29 hP => ?_)
                  have f30 : w29 26 = some (.inr (5, [.int (nI 2), .int y2, .int (nI nT), .ref (B + 27), .int (nI n), .ref (B + 28), .ref (B + 29), .int (nI n), .ref (B + 30), .ref (B + 31), .ref (B + 32), .int (nI nL), .ref (B + 33), .ref (B + 34), .ref (B + 35), .ref (B + 36), .int (nI nS), .ref (B + 37), .ref (B + 38), .int (nI nC), .ref (B + 39), .ref (B + 40), .ref (B + 41), .int (nI nW), .ref (B + 42), .int h9, .ref (B + 43), .int (nI nM), .ref (B + 44), .ref (B + 45), .ref (B + 46)])) := f30
                  have q27 : w29 27 = some (kl_aI G 4 ((fun t => nI (cn t)))) := (fr31 _ (by decide)).trans q27
                  have f19 : w29 28 = some (kl_aI G 24 O2) := (fr31 _ (by decide)).trans f19
                  have f20 : w29 29 = some (kl_aI G 96 D2) := (fr31 _ (by decide)).trans f20
                  have f8 : w29 30 = some (kl_aI G 24 sO) := (fr31 _ (by decide)).trans f8
                  have f9 : w29 31 = some (kl_aI G 96 sD) := (fr31 _ (by decide)).trans f9
                  have f10 : w29 32 = some (kl_aZ G 24 sG) := (fr31 _ (by decide)).trans f10
                  have q33 : w29 33 = some (kl_aI G 7 lch) := (fr31 _ (by decide)).trans q33
                  have q34 : w29 34 = some (kl_aI G 7 ((fun t => nI (lco t)))) := (fr31 _ (by decide)).trans q34
                  have q35 : w29 35 = some (kl_aI G 7 lpa) := (fr31 _ (by decide)).trans q35
                  have q36 : w29 36 = some (kl_aI G 7 lwy) := (fr31 _ (by decide)).trans q36
                  have q37 : w29 37 = some (kl_aI G 5 stb) := (fr31 _ (by decide)).trans q37
                  have q38 : w29 38 = some (kl_aI G 5 ((fun t => nI (sco t)))) := (fr31 _ (by decide)).trans q38
                  have q39 : w29 39 = some (kl_aI G 5 ctb) := (fr31 _ (by decide)).trans q39
                  have q40 : w29 40 = some (kl_aI G 5 ((fun t => nI (cln t)))) := (fr31 _ (by decide)).trans q40
                  have q41 : w29 41 = some (kl_aI G 50 ((fun t => nI (cw t)))) := (fr31 _ (by decide)).trans q41
                  have f21 : w29 43 = some (kl_aI G 12 p9) := (fr31 _ (by decide)).trans f21
                  have q44 : w29 44 = some (kl_aI G 4 ((fun t => nI (kR t)))) := (fr31 _ (by decide)).trans q44
                  have q45 : w29 45 = some (kl_aI G 96 kO) := (fr31 _ (by decide)).trans q45
                  have q46 : w29 46 = some (kl_aI G 384 kD) := (fr31 _ (by decide)).trans q46
                  have frm : ∀ j : Nat, j ≠ 26 → j ≠ 28 → j ≠ 29 → j ≠ 30 → j ≠ 31 → j ≠ 32 → j ≠ 43 → w29 j = w j := fun j k0 k1 k2 k3 k4 k5 k6 => (fr31 j k0).trans (frm j k0 k1 k2 k3 k4 k5 k6)
                  refine lv_aload_n hx hb dX5_back_124 rfl (lv_at hl 0 rfl) ?_
                  refine kl_get (C := RX5) (T := TX5) (N := 31) (ci := 5) hx hb hts hinX5 hown hK hP f30 rfl 0 (by decide) (hts (.fieldLink RX5 71 "KinLedgerModel" "code" "I") (by decide +kernel)) (fun _ h9 => h9) rfl dX5_back_125 ?_
                  refine kl_z_le (tgt := 133) hx hb (by omega) dX5_back_128 (by decide) (fun c128 => absurd c128 (by omega)) (fun c128 => ?_)
                  refine lv_iconst (v := nI 0) hx hb dX5_back_131 (by decide) ?_
                  exact kl_iret hx hb hr hlocks hP (Or.inr (Or.inr (⟨m7, o2, d2, hm7, fun q hq => ho q (by omega), fun q hq => hd q (by omega), y2, hy0, hsw, ⟨_, _, f30⟩, ⟨⟨_, _, f19, f20, fun q hq => (hO2 q hq).trans (hsO q hq), fun q hq => (hD2 q hq).trans (hsD q hq)⟩, ⟨_, _, _, _, f8, f9, f10, f21⟩⟩, frm⟩))) dX5_back_132
              · refine lv_aload_n hx hb dX5_back_91 rfl (lv_at hl 0 rfl) ?_
                refine kl_get (C := RX5) (T := TX5) (N := 31) (ci := 5) hx hb hts hinX5 hown hK hP f13 rfl 6 (by decide) (hts (.fieldLink RX5 16 "KinLedgerModel" "cells" "[I") (by decide +kernel)) (fun _ h9 => h9) rfl dX5_back_92 ?_
                refine lv_iload_n hx hb dX5_back_95 rfl (lv_at hl 2 rfl) ?_
                refine lv_aload_n hx hb dX5_back_96 rfl (lv_at hl 0 rfl) ?_
                refine kl_get (C := RX5) (T := TX5) (N := 31) (ci := 5) hx hb hts hinX5 hown hK hP f13 rfl 30 (by decide) (hts (.fieldLink RX5 68 "KinLedgerModel" "keptCells" "[I") (by decide +kernel)) (fun _ h9 => h9) rfl dX5_back_97 ?_
                refine lv_bipush (v := nI 96) hx hb dX5_back_100 (by decide) ?_
                refine lv_iload_n hx hb dX5_back_102 rfl (lv_at hl 1 rfl) ?_
                refine lv_imul hx hb dX5_back_103 ?_
                refine kl_top (z := nI (96 * m7)) (pk_mul _ _) ?_
                refine lv_iload_n hx hb dX5_back_104 rfl (lv_at hl 2 rfl) ?_
                refine lv_iadd hx hb dX5_back_105 ?_
                refine kl_top (z := nI (96 * m7 + k9)) (by first | exact nI_add _ _ | (rw [nI_add]; first | rfl | (congr 1; omega))) ?_
                refine kl_iald hx hb hK hP q46 (by omega) (by omega) dX5_back_106 ?_
                refine kl_iast hx hb hK hP q29 (by omega) (by omega) dX5_back_107 (fun w32 H locs f33 fr34 hzw32 hP => ?_)
                have f13 : w32 26 = some (.inr (5, [.int (nI 0), .int rs, .int (nI nT), .ref (B + 27), .int (nI (kR m7)), .ref (B + 28), .ref (B + 29), .int (nI n), .ref (B + 30), .ref (B + 31), .ref (B + 32), .int (nI nL), .ref (B + 33), .ref (B + 34), .ref (B + 35), .ref (B + 36), .int (nI nS), .ref (B + 37), .ref (B + 38), .int (nI nC), .ref (B + 39), .ref (B + 40), .ref (B + 41), .int (nI nW), .ref (B + 42), .int hi, .ref (B + 43), .int (nI nM), .ref (B + 44), .ref (B + 45), .ref (B + 46)])) := (fr34 _ (by decide)).trans f13
                have q27 : w32 27 = some (kl_aI G 4 ((fun t => nI (cn t)))) := (fr34 _ (by decide)).trans q27
                have q28 : w32 28 = some (kl_aI G 24 o2) := (fr34 _ (by decide)).trans q28
                have f8 : w32 30 = some (kl_aI G 24 sO) := (fr34 _ (by decide)).trans f8
                have f9 : w32 31 = some (kl_aI G 96 sD) := (fr34 _ (by decide)).trans f9
                have f10 : w32 32 = some (kl_aZ G 24 sG) := (fr34 _ (by decide)).trans f10
                have q33 : w32 33 = some (kl_aI G 7 lch) := (fr34 _ (by decide)).trans q33
                have q34 : w32 34 = some (kl_aI G 7 ((fun t => nI (lco t)))) := (fr34 _ (by decide)).trans q34
                have q35 : w32 35 = some (kl_aI G 7 lpa) := (fr34 _ (by decide)).trans q35
                have q36 : w32 36 = some (kl_aI G 7 lwy) := (fr34 _ (by decide)).trans q36
                have q37 : w32 37 = some (kl_aI G 5 stb) := (fr34 _ (by decide)).trans q37
                have q38 : w32 38 = some (kl_aI G 5 ((fun t => nI (sco t)))) := (fr34 _ (by decide)).trans q38
                have q39 : w32 39 = some (kl_aI G 5 ctb) := (fr34 _ (by decide)).trans q39
                have q40 : w32 40 = some (kl_aI G 5 ((fun t => nI (cln t)))) := (fr34 _ (by decide)).trans q40
                have q41 : w32 41 = some (kl_aI G 50 ((fun t => nI (cw t)))) := (fr34 _ (by decide)).trans q41
                have q43 : w32 43 = some (kl_aI G 12 pl) := (fr34 _ (by decide)).trans q43
                have q44 : w32 44 = some (kl_aI G 4 ((fun t => nI (kR t)))) := (fr34 _ (by decide)).trans q44
                have q45 : w32 45 = some (kl_aI G 96 kO) := (fr34 _ (by decide)).trans q45
                have q46 : w32 46 = some (kl_aI G 384 kD) := (fr34 _ (by decide)).trans q46
                have frm : ∀ j : Nat, j ≠ 26 → j ≠ 28 → j ≠ 29 → j ≠ 30 → j ≠ 31 → j ≠ 32 → j ≠ 43 → w32 j = w j := fun j k0 k1 k2 k3 k4 k5 k6 => (fr34 j k2).trans (frm j k0 k1 k2 k3 k4 k5 k6)
                refine lv_iinc (v := nI (k9 + 1)) (lv' := [(2, .int (nI (k9 + 1))), (0, .ref (B + 26)), (1, .int (nI m7))]) hx hb dX5_back_108 hl (k := 2) rfl (nI_1 _) (by decide) rfl (fun ls hl => ?_)
                refine lv_goto (tgt := 81) hx hb dX5_back_111 (by decide) ?_
                exact ih81 (k9 + 1) (upd d2 k9 (kD (96 * m7 + k9))) (by omega) (by first | omega | grind) (mt_upd_sp (Sp := fun q v => v = kD (96 * m7 + q)) hd rfl) _ _ _ f13 q27 q28 f33 f8 f9 f10 q33 q34 q35 q36 q37 q38 q39 q40 q41 q43 q44 q45 q46 frm hP ls (lv_sub hl [1, 2, 0] rfl)
          exact lp81 ((4 * kR m7) + 1) 0 D (Nat.lt_succ_of_le (by omega)) (by first | omega | grind) lt_0 _ _ _ f13 q27 q28 q29 f8 f9 f10 q33 q34 q35 q36 q37 q38 q39 q40 q41 q43 q44 q45 q46 frm hP ls (lv_sub hl [1, 2, 0] rfl)
        · refine lv_aload_n hx hb dX5_back_56 rfl (lv_at hl 0 rfl) ?_
          refine kl_get (C := RX5) (T := TX5) (N := 31) (ci := 5) hx hb hts hinX5 hown hK hP f13 rfl 5 (by decide) (hts (.fieldLink RX5 13 "KinLedgerModel" "of" "[I") (by decide +kernel)) (fun _ h9 => h9) rfl dX5_back_57 ?_
          refine lv_iload_n hx hb dX5_back_60 rfl (lv_at hl 2 rfl) ?_
          refine lv_aload_n hx hb dX5_back_61 rfl (lv_at hl 0 rfl) ?_
          refine kl_get (C := RX5) (T := TX5) (N := 31) (ci := 5) hx hb hts hinX5 hown hK hP f13 rfl 29 (by decide) (hts (.fieldLink RX5 65 "KinLedgerModel" "keptOf" "[I") (by decide +kernel)) (fun _ h9 => h9) rfl dX5_back_62 ?_
          refine lv_bipush (v := nI 24) hx hb dX5_back_65 (by decide) ?_
          refine lv_iload_n hx hb dX5_back_67 rfl (lv_at hl 1 rfl) ?_
          refine lv_imul hx hb dX5_back_68 ?_
          refine kl_top (z := nI (24 * m7)) (pk_mul _ _) ?_
          refine lv_iload_n hx hb dX5_back_69 rfl (lv_at hl 2 rfl) ?_
          refine lv_iadd hx hb dX5_back_70 ?_
          refine kl_top (z := nI (24 * m7 + r9)) (by first | exact nI_add _ _ | (rw [nI_add]; first | rfl | (congr 1; omega))) ?_
          refine kl_iald hx hb hK hP q45 (by omega) (by omega) dX5_back_71 ?_
          refine kl_iast hx hb hK hP q28 (by omega) (by omega) dX5_back_72 (fun w35 H locs f36 fr37 hzw35 hP => ?_)
          have f13 : w35 26 = some (.inr (5, [.int (nI 0), .int rs, .int (nI nT), .ref (B + 27), .int (nI (kR m7)), .ref (B + 28), .ref (B + 29), .int (nI n), .ref (B + 30), .ref (B + 31), .ref (B + 32), .int (nI nL), .ref (B + 33), .ref (B + 34), .ref (B + 35), .ref (B + 36), .int (nI nS), .ref (B + 37), .ref (B + 38), .int (nI nC), .ref (B + 39), .ref (B + 40), .ref (B + 41), .int (nI nW), .ref (B + 42), .int hi, .ref (B + 43), .int (nI nM), .ref (B + 44), .ref (B + 45), .ref (B + 46)])) := (fr37 _ (by decide)).trans f13
          have q27 : w35 27 = some (kl_aI G 4 ((fun t => nI (cn t)))) := (fr37 _ (by decide)).trans q27
          have q29 : w35 29 = some (kl_aI G 96 D) := (fr37 _ (by decide)).trans q29
          have f8 : w35 30 = some (kl_aI G 24 sO) := (fr37 _ (by decide)).trans f8
          have f9 : w35 31 = some (kl_aI G 96 sD) := (fr37 _ (by decide)).trans f9
          have f10 : w35 32 = some (kl_aZ G 24 sG) := (fr37 _ (by decide)).trans f10
          have q33 : w35 33 = some (kl_aI G 7 lch) := (fr37 _ (by decide)).trans q33
          have q34 : w35 34 = some (kl_aI G 7 ((fun t => nI (lco t)))) := (fr37 _ (by decide)).trans q34
          have q35 : w35 35 = some (kl_aI G 7 lpa) := (fr37 _ (by decide)).trans q35
          have q36 : w35 36 = some (kl_aI G 7 lwy) := (fr37 _ (by decide)).trans q36
          have q37 : w35 37 = some (kl_aI G 5 stb) := (fr37 _ (by decide)).trans q37
          have q38 : w35 38 = some (kl_aI G 5 ((fun t => nI (sco t)))) := (fr37 _ (by decide)).trans q38
          have q39 : w35 39 = some (kl_aI G 5 ctb) := (fr37 _ (by decide)).trans q39
          have q40 : w35 40 = some (kl_aI G 5 ((fun t => nI (cln t)))) := (fr37 _ (by decide)).trans q40
          have q41 : w35 41 = some (kl_aI G 50 ((fun t => nI (cw t)))) := (fr37 _ (by decide)).trans q41
          have q43 : w35 43 = some (kl_aI G 12 pl) := (fr37 _ (by decide)).trans q43
          have q44 : w35 44 = some (kl_aI G 4 ((fun t => nI (kR t)))) := (fr37 _ (by decide)).trans q44
          have q45 : w35 45 = some (kl_aI G 96 kO) := (fr37 _ (by decide)).trans q45
          have q46 : w35 46 = some (kl_aI G 384 kD) := (fr37 _ (by decide)).trans q46
          have frm : ∀ j : Nat, j ≠ 26 → j ≠ 28 → j ≠ 29 → j ≠ 30 → j ≠ 31 → j ≠ 32 → j ≠ 43 → w35 j = w j := fun j k0 k1 k2 k3 k4 k5 k6 => (fr37 j k1).trans (frm j k0 k1 k2 k3 k4 k5 k6)
          refine lv_iinc (v := nI (r9 + 1)) (lv' := [(2, .int (nI (r9 + 1))), (0, .ref (B + 26)), (1, .int (nI m7))]) hx hb dX5_back_73 hl (k := 2) rfl (nI_1 _) (by decide) rfl (fun ls hl => ?_)
          refine lv_goto (tgt := 48) hx hb dX5_back_76 (by decide) ?_
          exact ih48 (r9 + 1) (upd o2 r9 (kO (24 * m7 + r9))) (by omega) (by first | omega | grind) (mt_upd_sp (Sp := fun q v => v = kO (24 * m7 + q)) ho rfl) _ _ _ f13 q27 f36 q29 f8 f9 f10 q33 q34 q35 q36 q37 q38 q39 q40 q41 q43 q44 q45 q46 frm hP ls (lv_sub hl [1, 2, 0] rfl)
    exact lp48 ((kR m7) + 1) 0 O (Nat.lt_succ_of_le (by omega)) (by first | omega | grind) lt_0 _ _ _ f13 q27 q28 q29 f8 f9 f10 q33 q34 q35 q36 q37 q38 q39 q40 q41 q43 q44 q45 q46 frm hP ls (lv_sub hl [2, 1, 0] rfl)
  · refine lv_iconst (v := nI 1) hx hb dX5_back_8 (by decide) ?_
    refine lv_goto (tgt := 13) hx hb dX5_back_9 (by decide) ?_
    refine kl_put (C := RX5) (T := TX5) (N := 31) (ci := 5) (v := .int (nI 1)) (ty := .int) hx hb hts hinX5 tyX5 tyX5_ok nmX5 hown hK hP q26 rfl 0 (by decide) (hts (.fieldLink RX5 71 "KinLedgerModel" "code" "I") (by decide +kernel)) (fun _ h9 => h9) rfl (by decide +kernel) rfl rfl (Nat.le_of_ble_eq_true rfl) dX5_back_13 (fun w38 H locs f39 fr40 hzw38 hP => ?_)
    have f39 : w38 26 = some (.inr (5, [.int (nI 1), .int rs, .int (nI nT), .ref (B + 27), .int (nI n), .ref (B + 28), .ref (B + 29), .int (nI on), .ref (B + 30), .ref (B + 31), .ref (B + 32), .int (nI nL), .ref (B + 33), .ref (B + 34), .ref (B + 35), .ref (B + 36), .int (nI nS), .ref (B + 37), .ref (B + 38), .int (nI nC), .ref (B + 39), .ref (B + 40), .ref (B + 41), .int (nI nW), .ref (B + 42), .int hi, .ref (B + 43), .int (nI nM), .ref (B + 44), .ref (B + 45), .ref (B + 46)])) := f39
    have q27 : w38 27 = some (kl_aI G 4 ((fun t => nI (cn t)))) := (fr40 _ (by decide)).trans q27
    have q28 : w38 28 = some (kl_aI G 24 O) := (fr40 _ (by decide)).trans q28
    have q29 : w38 29 = some (kl_aI G 96 D) := (fr40 _ (by decide)).trans q29
    have q30 : w38 30 = some (kl_aI G 24 oO) := (fr40 _ (by decide)).trans q30
    have q31 : w38 31 = some (kl_aI G 96 oD) := (fr40 _ (by decide)).trans q31
    have q32 : w38 32 = some (kl_aZ G 24 gn) := (fr40 _ (by decide)).trans q32
    have q33 : w38 33 = some (kl_aI G 7 lch) := (fr40 _ (by decide)).trans q33
    have q34 : w38 34 = some (kl_aI G 7 ((fun t => nI (lco t)))) := (fr40 _ (by decide)).trans q34
    have q35 : w38 35 = some (kl_aI G 7 lpa) := (fr40 _ (by decide)).trans q35
    have q36 : w38 36 = some (kl_aI G 7 lwy) := (fr40 _ (by decide)).trans q36
    have q37 : w38 37 = some (kl_aI G 5 stb) := (fr40 _ (by decide)).trans q37
    have q38 : w38 38 = some (kl_aI G 5 ((fun t => nI (sco t)))) := (fr40 _ (by decide)).trans q38
    have q39 : w38 39 = some (kl_aI G 5 ctb) := (fr40 _ (by decide)).trans q39
    have q40 : w38 40 = some (kl_aI G 5 ((fun t => nI (cln t)))) := (fr40 _ (by decide)).trans q40
    have q41 : w38 41 = some (kl_aI G 50 ((fun t => nI (cw t)))) := (fr40 _ (by decide)).trans q41
    have q43 : w38 43 = some (kl_aI G 12 pl) := (fr40 _ (by decide)).trans q43
    have q44 : w38 44 = some (kl_aI G 4 ((fun t => nI (kR t)))) := (fr40 _ (by decide)).trans q44
    have q45 : w38 45 = some (kl_aI G 96 kO) := (fr40 _ (by decide)).trans q45
    have q46 : w38 46 = some (kl_aI G 384 kD) := (fr40 _ (by decide)).trans q46
    have frm : ∀ j : Nat, j ≠ 26 → j ≠ 28 → j ≠ 29 → j ≠ 30 → j ≠ 31 → j ≠ 32 → j ≠ 43 → w38 j = w j := fun j k0 k1 k2 k3 k4 k5 k6 => (fr40 j k0).trans (frm j k0 k1 k2 k3 k4 k5 k6)
    refine lv_aload_n hx hb dX5_back_16 rfl (lv_at hl 0 rfl) ?_
    refine kl_get (C := RX5) (T := TX5) (N := 31) (ci := 5) hx hb hts hinX5 hown hK hP f39 rfl 0 (by decide) (hts (.fieldLink RX5 71 "KinLedgerModel" "code" "I") (by decide +kernel)) (fun _ h9 => h9) rfl dX5_back_17 ?_
    refine kl_z_le (tgt := 25) hx hb (by omega) dX5_back_20 (by decide) (fun c20 => absurd c20 (by omega)) (fun c20 => ?_)
    refine lv_iconst (v := nI 0) hx hb dX5_back_23 (by decide) ?_
    exact kl_iret hx hb hr hlocks hP (Or.inl (⟨by omega, f39, ⟨⟨_, _, q28, q29, fun _ _ => rfl, fun _ _ => rfl⟩, ⟨_, _, _, _, q30, q31, q32, q43⟩⟩, frm⟩)) dX5_back_24

abbrev rm_X5_reason : Room := { frames := 0, cells := 0, slots := 0, locals := 0 }
set_option maxHeartbeats 4000000 in
set_option maxRecDepth 100000 in
theorem c_X5_reason (l : Launch) (G : kl_G) (B : Nat) (w : kl_M) {nT nL nS nC nW nM n on : Nat} {ec rs hi : Int32} (q26 : w 26 = some (.inr (5, [.int ec, .int rs, .int (nI nT), .ref (B + 27), .int (nI n), .ref (B + 28), .ref (B + 29), .int (nI on), .ref (B + 30), .ref (B + 31), .ref (B + 32), .int (nI nL), .ref (B + 33), .ref (B + 34), .ref (B + 35), .ref (B + 36), .int (nI nS), .ref (B + 37), .ref (B + 38), .int (nI nC), .ref (B + 39), .ref (B + 40), .ref (B + 41), .int (nI nW), .ref (B + 42), .int hi, .ref (B + 43), .int (nI nM), .ref (B + 44), .ref (B + 45), .ref (B + 46)])))  : Met l yX5_reason wsX5_reason rm_X5_reason (kl_Pc G B w [.ref (B + 26)]) (kl_Qi G B (fun r w1 => r = rs ∧ w1 26 = some (.inr (5, [.int (nI 0), .int rs, .int (nI nT), .ref (B + 27), .int (nI n), .ref (B + 28), .ref (B + 29), .int (nI on), .ref (B + 30), .ref (B + 31), .ref (B + 32), .int (nI nL), .ref (B + 33), .ref (B + 34), .ref (B + 35), .ref (B + 36), .int (nI nS), .ref (B + 37), .ref (B + 38), .int (nI nC), .ref (B + 39), .ref (B + 40), .ref (B + 41), .int (nI nW), .ref (B + 42), .int hi, .ref (B + 43), .int (nI nM), .ref (B + 44), .ref (B + 45), .ref (B + 46)])) ∧ ∀ j : Nat, j ≠ 26 → w1 j = w j)) 0 0 (kl_fr B) := by
  refine Met.ofW (cc := cX5_reason) (maxL := 1) (ret := (some .int)) (by decide) rfl ?_
  intro pg e s m args below meth cd s₁ Bd hml hv
  obtain ⟨rfl, hP0, hK⟩ := hv
  have hx := Bd.exec
  have hb := Bd.bytes
  have hr := Bd.returns
  have hts := atoms_spec (ws := wsX5_reason) Bd.pre
  have hown : s.vm.findClass RX5 = some m.cls := findClass_of_methodNamed Bd.named
  have hlocks := Bd.notSynchronized
  have hinX5 : ∀ w ∈ u_ws RX5 TX5 31, w ∈ wsX5_reason := by decide +kernel
  have hP := kl_S.rf hP0
  have hl := lv_entry ([.ref (B + 26)]) (n := 1) (Nat.le_of_ble_eq_true rfl)
  rw [lg_entry_eq]
  generalize (lg_sl ([.ref (B + 26)]) ++ List.replicate (1 - (lg_sl ([.ref (B + 26)])).length) Slot.unset).toArray = ls at hl ⊢
  have hl : lv_has ls 1 [(0, .ref (B + 26))] := hl
  have frm : ∀ j : Nat, j ≠ 26 → w j = w j := fun j _ => rfl
  refine lv_aload_n hx hb dX5_reason_0 rfl (lv_at hl 0 rfl) ?_
  refine lv_iconst (v := nI 0) hx hb dX5_reason_1 (by decide) ?_
  refine kl_put (C := RX5) (T := TX5) (N := 31) (ci := 5) (v := .int (nI 0)) (ty := .int) hx hb hts hinX5 tyX5 tyX5_ok nmX5 hown hK hP q26 rfl 0 (by decide) (hts (.fieldLink RX5 71 "KinLedgerModel" "code" "I") (by decide +kernel)) (fun _ h9 => h9) rfl (by decide +kernel) rfl rfl (Nat.le_of_ble_eq_true rfl) dX5_reason_2 (fun w1 H locs f2 fr3 hzw1 hP => ?_)
  have f2 : w1 26 = some (.inr (5, [.int (nI 0), .int rs, .int (nI nT), .ref (B + 27), .int (nI n), .ref (B + 28), .ref (B + 29), .int (nI on), .ref (B + 30), .ref (B + 31), .ref (B + 32), .int (nI nL), .ref (B + 33), .ref (B + 34), .ref (B + 35), .ref (B + 36), .int (nI nS), .ref (B + 37), .ref (B + 38), .int (nI nC), .ref (B + 39), .ref (B + 40), .ref (B + 41), .int (nI nW), .ref (B + 42), .int hi, .ref (B + 43), .int (nI nM), .ref (B + 44), .ref (B + 45), .ref (B + 46)])) := f2
  have frm : ∀ j : Nat, j ≠ 26 → w1 j = w j := fun j k0 => (fr3 j k0).trans (frm j k0)
  refine lv_aload_n hx hb dX5_reason_5 rfl (lv_at hl 0 rfl) ?_
  refine kl_get (C := RX5) (T := TX5) (N := 31) (ci := 5) hx hb hts hinX5 hown hK hP f2 rfl 1 (by decide) (hts (.fieldLink RX5 121 "KinLedgerModel" "reason" "I") (by decide +kernel)) (fun _ h9 => h9) rfl dX5_reason_6 ?_
  exact kl_iret hx hb hr hlocks hP ⟨rfl, f2, frm⟩ dX5_reason_9

abbrev rm_X5_has : Room := { frames := 1, cells := 0, slots := 0, locals := 24 }
set_option maxHeartbeats 4000000 in
set_option maxRecDepth 100000 in
theorem c_X5_has (l : Launch) (G : kl_G) (B : Nat) (w : kl_M) {nT nL nS nC nW nM n on : Nat} {ec rs hi : Int32} {O D : Nat → Int32} (t k : Int32) (q26 : w 26 = some (.inr (5, [.int ec, .int rs, .int (nI nT), .ref (B + 27), .int (nI n), .ref (B + 28), .ref (B + 29), .int (nI on), .ref (B + 30), .ref (B + 31), .ref (B + 32), .int (nI nL), .ref (B + 33), .ref (B + 34), .ref (B + 35), .ref (B + 36), .int (nI nS), .ref (B + 37), .ref (B + 38), .int (nI nC), .ref (B + 39), .ref (B + 40), .ref (B + 41), .int (nI nW), .ref (B + 42), .int hi, .ref (B + 43), .int (nI nM), .ref (B + 44), .ref (B + 45), .ref (B + 46)]))) (q28 : w 28 = some (kl_aI G 24 O)) (q29 : w 29 = some (kl_aI G 96 D)) (hnT : nT ≤ 4) (hn : n ≤ 24) : Met l yX5_has wsX5_has rm_X5_has (kl_Pc G B w [.ref (B + 26), .int t, .int k]) (kl_Qi G B (fun r w1 => (¬ mt_tab t nT ∧ w1 26 = some (.inr (5, [.int (nI 1), .int rs, .int (nI nT), .ref (B + 27), .int (nI n), .ref (B + 28), .ref (B + 29), .int (nI on), .ref (B + 30), .ref (B + 31), .ref (B + 32), .int (nI nL), .ref (B + 33), .ref (B + 34), .ref (B + 35), .ref (B + 36), .int (nI nS), .ref (B + 37), .ref (B + 38), .int (nI nC), .ref (B + 39), .ref (B + 40), .ref (B + 41), .int (nI nW), .ref (B + 42), .int hi, .ref (B + 43), .int (nI nM), .ref (B + 44), .ref (B + 45), .ref (B + 46)])) ∧ ∀ j : Nat, j ≠ 26 → w1 j = w j) ∨ (mt_tab t nT ∧ kl_b r (k ≠ 0 ∧ mt_has (md_T n O) D t k) ∧ w1 26 = some (.inr (5, [.int (nI 0), .int rs, .int (nI nT), .ref (B + 27), .int (nI n), .ref (B + 28), .ref (B + 29), .int (nI on), .ref (B + 30), .ref (B + 31), .ref (B + 32), .int (nI nL), .ref (B + 33), .ref (B + 34), .ref (B + 35), .ref (B + 36), .int (nI nS), .ref (B + 37), .ref (B + 38), .int (nI nC), .ref (B + 39), .ref (B + 40), .ref (B + 41), .int (nI nW), .ref (B + 42), .int hi, .ref (B + 43), .int (nI nM), .ref (B + 44), .ref (B + 45), .ref (B + 46)])) ∧ ∀ j : Nat, j ≠ 26 → w1 j = w j))) 0 0 (kl_fr B) := by
  refine Met.ofW (cc := cX5_has) (maxL := 3) (ret := (some .boolean)) (by decide) rfl ?_
  intro pg e s m args below meth cd s₁ Bd hml hv
  obtain ⟨rfl, hP0, hK⟩ := hv
  have hx := Bd.exec
  have hb := Bd.bytes
  have hr := Bd.returns
  have hts := atoms_spec (ws := wsX5_has) Bd.pre
  have hown : s.vm.findClass RX5 = some m.cls := findClass_of_methodNamed Bd.named
  have hlocks := Bd.notSynchronized
  have hinX5 : ∀ w ∈ u_ws RX5 TX5 31, w ∈ wsX5_has := by decide +kernel
  have hP := kl_S.rf hP0
  have hl := lv_entry ([.ref (B + 26), .int t, .int k]) (n := 3) (Nat.le_of_ble_eq_true rfl)
  rw [lg_entry_eq]
  generalize (lg_sl ([.ref (B + 26), .int t, .int k]) ++ List.replicate (3 - (lg_sl ([.ref (B + 26), .int t, .int k])).length) Slot.unset).toArray = ls at hl ⊢
  have hl : lv_has ls 3 [(0, .ref (B + 26)), (1, .int t), (2, .int k)] := hl
  have frm : ∀ j : Nat, j ≠ 26 → w j = w j := fun j _ => rfl
  refine lv_aload_n hx hb dX5_has_0 rfl (lv_at hl 0 rfl) ?_
  refine lv_aload_n hx hb dX5_has_1 rfl (lv_at hl 0 rfl) ?_
  refine lv_iload_n hx hb dX5_has_2 rfl (lv_at hl 1 rfl) ?_
  refine kl_cVi (C := RX5) (i := 26) (As := [.int t]) (rest := [.ref (B + 26)]) ⟨hx, hb, hml, hown, hts⟩ (c_X5_isTable l G B _ t q26 (by omega)) (cwV 1 hts gX5_has_X5_isTable rfl rfl rfl (by decide +kernel) ⟨Nat.le_of_ble_eq_true rfl, Nat.le_of_ble_eq_true rfl⟩) hK hP q26 rfl rfl hl.1 rfl (Nat.le_of_ble_eq_true rfl) dX5_has_3 ⟨Nat.le_of_ble_eq_true rfl, Nat.le_of_ble_eq_true rfl⟩ (fun r3 w1 H locs q2 hP => ?_)
  obtain ⟨rfl, hv4⟩ := q2
  refine kl_ifeq (tgt := 13) hx hb hv4 dX5_has_6 (by decide) (fun c6 => ?_) (fun c6 => ?_)
  · refine lv_iconst (v := nI 1) hx hb dX5_has_13 (by decide) ?_
    refine kl_put (C := RX5) (T := TX5) (N := 31) (ci := 5) (v := .int (nI 1)) (ty := .int) hx hb hts hinX5 tyX5 tyX5_ok nmX5 hown hK hP q26 rfl 0 (by decide) (hts (.fieldLink RX5 71 "KinLedgerModel" "code" "I") (by decide +kernel)) (fun _ h9 => h9) rfl (by decide +kernel) rfl rfl (Nat.le_of_ble_eq_true rfl) dX5_has_14 (fun w5 H locs f6 fr7 hzw5 hP => ?_)
    have f6 : w5 26 = some (.inr (5, [.int (nI 1), .int rs, .int (nI nT), .ref (B + 27), .int (nI n), .ref (B + 28), .ref (B + 29), .int (nI on), .ref (B + 30), .ref (B + 31), .ref (B + 32), .int (nI nL), .ref (B + 33), .ref (B + 34), .ref (B + 35), .ref (B + 36), .int (nI nS), .ref (B + 37), .ref (B + 38), .int (nI nC), .ref (B + 39), .ref (B + 40), .ref (B + 41), .int (nI nW), .ref (B + 42), .int hi, .ref (B + 43), .int (nI nM), .ref (B + 44), .ref (B + 45), .ref (B + 46)])) := f6
    have q28 : w5 28 = some (kl_aI G 24 O) := (fr7 _ (by decide)).trans q28
    have q29 : w5 29 = some (kl_aI G 96 D) := (fr7 _ (by decide)).trans q29
    have frm : ∀ j : Nat, j ≠ 26 → w5 j = w j := fun j k0 => (fr7 j k0).trans (frm j k0)
    refine lv_aload_n hx hb dX5_has_17 rfl (lv_at hl 0 rfl) ?_
    refine kl_get (C := RX5) (T := TX5) (N := 31) (ci := 5) hx hb hts hinX5 hown hK hP f6 rfl 0 (by decide) (hts (.fieldLink RX5 71 "KinLedgerModel" "code" "I") (by decide +kernel)) (fun _ h9 => h9) rfl dX5_has_18 ?_
    refine kl_z_ne (tgt := 41) hx hb (by omega) dX5_has_21 (by decide) (fun c21 => ?_) (fun c21 => absurd c21 (by omega))
    refine lv_iconst (v := nI 0) hx hb dX5_has_41 (by decide) ?_
    exact kl_zret hx hb hr hlocks (by decide) hP (Or.inl (⟨c6, f6, frm⟩)) dX5_has_42
  · have hok := c6
    have htn : t ≠ -1 := by obtain ⟨j9, z1, z2⟩ := c6; rw [z2]; exact kl_nm1 (by omega)
    refine lv_iconst (v := nI 0) hx hb dX5_has_9 (by decide) ?_
    refine lv_goto (tgt := 14) hx hb dX5_has_10 (by decide) ?_
    refine kl_put (C := RX5) (T := TX5) (N := 31) (ci := 5) (v := .int (nI 0)) (ty := .int) hx hb hts hinX5 tyX5 tyX5_ok nmX5 hown hK hP q26 rfl 0 (by decide) (hts (.fieldLink RX5 71 "KinLedgerModel" "code" "I") (by decide +kernel)) (fun _ h9 => h9) rfl (by decide +kernel) rfl rfl (Nat.le_of_ble_eq_true rfl) dX5_has_14 (fun w8 H locs f9 fr10 hzw8 hP => ?_)
    have f9 : w8 26 = some (.inr (5, [.int (nI 0), .int rs, .int (nI nT), .ref (B + 27), .int (nI n), .ref (B + 28), .ref (B + 29), .int (nI on), .ref (B + 30), .ref (B + 31), .ref (B + 32), .int (nI nL), .ref (B + 33), .ref (B + 34), .ref (B + 35), .ref (B + 36), .int (nI nS), .ref (B + 37), .ref (B + 38), .int (nI nC), .ref (B + 39), .ref (B + 40), .ref (B + 41), .int (nI nW), .ref (B + 42), .int hi, .ref (B + 43), .int (nI nM), .ref (B + 44), .ref (B + 45), .ref (B + 46)])) := f9
    have q28 : w8 28 = some (kl_aI G 24 O) := (fr10 _ (by decide)).trans q28
    have q29 : w8 29 = some (kl_aI G 96 D) := (fr10 _ (by decide)).trans q29
    have frm : ∀ j : Nat, j ≠ 26 → w8 j = w j := fun j k0 => (fr10 j k0).trans (frm j k0)
    refine lv_aload_n hx hb dX5_has_17 rfl (lv_at hl 0 rfl) ?_
    refine kl_get (C := RX5) (T := TX5) (N := 31) (ci := 5) hx hb hts hinX5 hown hK hP f9 rfl 0 (by decide) (hts (.fieldLink RX5 71 "KinLedgerModel" "code" "I") (by decide +kernel)) (fun _ h9 => h9) rfl dX5_has_18 ?_
    refine kl_z_ne (tgt := 41) hx hb (by omega) dX5_has_21 (by decide) (fun c21 => absurd c21 (by omega)) (fun c21 => ?_)
    refine lv_iload_n hx hb dX5_has_24 rfl (lv_at hl 2 rfl) ?_
    refine lv_if_eq (tgt := 41) hx hb dX5_has_25 (by decide) (fun c25 => ?_) (fun c25 => ?_)
    · refine lv_iconst (v := nI 0) hx hb dX5_has_41 (by decide) ?_
      exact kl_zret hx hb hr hlocks (by decide) hP (Or.inr (⟨hok, kl_b.f (fun z => z.1 c25), f9, frm⟩)) dX5_has_42
    · refine lv_aload_n hx hb dX5_has_28 rfl (lv_at hl 0 rfl) ?_
      refine lv_iload_n hx hb dX5_has_29 rfl (lv_at hl 1 rfl) ?_
      refine lv_iload_n hx hb dX5_has_30 rfl (lv_at hl 2 rfl) ?_
      refine kl_cVi (C := RX5) (i := 26) (As := [.int t, .int k]) (rest := []) ⟨hx, hb, hml, hown, hts⟩ (c_X5_find l G B _ t k f9 q28 q29 (by omega) htn) (cwV 2 hts gX5_has_X5_find rfl rfl rfl (by decide +kernel) ⟨Nat.le_of_ble_eq_true rfl, Nat.le_of_ble_eq_true rfl⟩) hK hP f9 rfl rfl hl.1 rfl (Nat.le_of_ble_eq_true rfl) dX5_has_31 ⟨Nat.le_of_ble_eq_true rfl, Nat.le_of_ble_eq_true rfl⟩ (fun r13 w11 H locs q12 hP => ?_)
      obtain ⟨rfl, hv14⟩ := q12
      rcases hv14 with ⟨rfl, hv14⟩ | ⟨p15, hp15, rfl, hv14⟩
      · refine lv_if_lt (tgt := 41) hx hb dX5_has_34 (by decide) (fun c34 => ?_) (fun c34 => absurd c34 (by decide))
        refine lv_iconst (v := nI 0) hx hb dX5_has_41 (by decide) ?_
        exact kl_zret hx hb hr hlocks (by decide) hP (Or.inr (⟨hok, kl_b.f (fun z => mt_has_n hv14 z.2), f9, frm⟩)) dX5_has_42
      · refine kl_z_lt (tgt := 41) hx hb (by omega) dX5_has_34 (by decide) ?_
        refine lv_iconst (v := nI 1) hx hb dX5_has_37 (by decide) ?_
        refine lv_goto (tgt := 42) hx hb dX5_has_38 (by decide) ?_
        exact kl_zret hx hb hr hlocks (by decide) hP (Or.inr (⟨hok, kl_b.t ⟨c25, p15, hp15, hv14⟩, f9, frm⟩)) dX5_has_42

abbrev rm_X5_cell : Room := { frames := 2, cells := 0, slots := 0, locals := 43 }
set_option maxHeartbeats 4000000 in
set_option maxRecDepth 100000 in
theorem c_X5_cell (l : Launch) (G : kl_G) (B : Nat) (w : kl_M) {nT nL nS nC nW nM n on : Nat} {ec rs hi : Int32} {cn : Nat → Nat} {O D : Nat → Int32} (t k c : Int32) (q26 : w 26 = some (.inr (5, [.int ec, .int rs, .int (nI nT), .ref (B + 27), .int (nI n), .ref (B + 28), .ref (B + 29), .int (nI on), .ref (B + 30), .ref (B + 31), .ref (B + 32), .int (nI nL), .ref (B + 33), .ref (B + 34), .ref (B + 35), .ref (B + 36), .int (nI nS), .ref (B + 37), .ref (B + 38), .int (nI nC), .ref (B + 39), .ref (B + 40), .ref (B + 41), .int (nI nW), .ref (B + 42), .int hi, .ref (B + 43), .int (nI nM), .ref (B + 44), .ref (B + 45), .ref (B + 46)]))) (q27 : w 27 = some (kl_aI G 4 ((fun t => nI (cn t))))) (q28 : w 28 = some (kl_aI G 24 O)) (q29 : w 29 = some (kl_aI G 96 D)) (hnT : nT ≤ 4) (hn : n ≤ 24) (hcn4 : ∀ j, j < nT → cn j ≤ 4) : Met l yX5_cell wsX5_cell rm_X5_cell (kl_Pc G B w [.ref (B + 26), .int t, .int k, .int c]) (kl_Qi G B (fun r w1 => (¬ mt_col t c nT cn ∧ w1 26 = some (.inr (5, [.int (nI 1), .int rs, .int (nI nT), .ref (B + 27), .int (nI n), .ref (B + 28), .ref (B + 29), .int (nI on), .ref (B + 30), .ref (B + 31), .ref (B + 32), .int (nI nL), .ref (B + 33), .ref (B + 34), .ref (B + 35), .ref (B + 36), .int (nI nS), .ref (B + 37), .ref (B + 38), .int (nI nC), .ref (B + 39), .ref (B + 40), .ref (B + 41), .int (nI nW), .ref (B + 42), .int hi, .ref (B + 43), .int (nI nM), .ref (B + 44), .ref (B + 45), .ref (B + 46)])) ∧ ∀ j : Nat, j ≠ 26 → w1 j = w j) ∨ (mt_col t c nT cn ∧ (k = 0 ∨ ¬ mt_has (md_T n O) D t k) ∧ w1 26 = some (.inr (5, [.int (nI 2), .int rs, .int (nI nT), .ref (B + 27), .int (nI n), .ref (B + 28), .ref (B + 29), .int (nI on), .ref (B + 30), .ref (B + 31), .ref (B + 32), .int (nI nL), .ref (B + 33), .ref (B + 34), .ref (B + 35), .ref (B + 36), .int (nI nS), .ref (B + 37), .ref (B + 38), .int (nI nC), .ref (B + 39), .ref (B + 40), .ref (B + 41), .int (nI nW), .ref (B + 42), .int hi, .ref (B + 43), .int (nI nM), .ref (B + 44), .ref (B + 45), .ref (B + 46)])) ∧ ∀ j : Nat, j ≠ 26 → w1 j = w j) ∨ (mt_col t c nT cn ∧ k ≠ 0 ∧ (∃ p q, p < n ∧ O p = t ∧ D (4 * p) = k ∧ q < 4 ∧ c = nI q ∧ r = D (4 * p + q)) ∧ w1 26 = some (.inr (5, [.int (nI 0), .int rs, .int (nI nT), .ref (B + 27), .int (nI n), .ref (B + 28), .ref (B + 29), .int (nI on), .ref (B + 30), .ref (B + 31), .ref (B + 32), .int (nI nL), .ref (B + 33), .ref (B + 34), .ref (B + 35), .ref (B + 36), .int (nI nS), .ref (B + 37), .ref (B + 38), .int (nI nC), .ref (B + 39), .ref (B + 40), .ref (B + 41), .int (nI nW), .ref (B + 42), .int hi, .ref (B + 43), .int (nI nM), .ref (B + 44), .ref (B + 45), .ref (B + 46)])) ∧ ∀ j : Nat, j ≠ 26 → w1 j = w j))) 0 0 (kl_fr B) := by
  refine Met.ofW (cc := cX5_cell) (maxL := 5) (ret := (some .int)) (by decide) rfl ?_
  intro pg e s m args below meth cd s₁ Bd hml hv
  obtain ⟨rfl, hP0, hK⟩ := hv
  have hx := Bd.exec
  have hb := Bd.bytes
  have hr := Bd.returns
  have hts := atoms_spec (ws := wsX5_cell) Bd.pre
  have hown : s.vm.findClass RX5 = some m.cls := findClass_of_methodNamed Bd.named
  have hlocks := Bd.notSynchronized
  have hinX5 : ∀ w ∈ u_ws RX5 TX5 31, w ∈ wsX5_cell := by decide +kernel
  have hP := kl_S.rf hP0
  have hl := lv_entry ([.ref (B + 26), .int t, .int k, .int c]) (n := 5) (Nat.le_of_ble_eq_true rfl)
  rw [lg_entry_eq]
  generalize (lg_sl ([.ref (B + 26), .int t, .int k, .int c]) ++ List.replicate (5 - (lg_sl ([.ref (B + 26), .int t, .int k, .int c])).length) Slot.unset).toArray = ls at hl ⊢
  have hl : lv_has ls 5 [(0, .ref (B + 26)), (1, .int t), (2, .int k), (3, .int c)] := hl
  have frm : ∀ j : Nat, j ≠ 26 → w j = w j := fun j _ => rfl
  refine lv_aload_n hx hb dX5_cell_0 rfl (lv_at hl 0 rfl) ?_
  refine lv_aload_n hx hb dX5_cell_1 rfl (lv_at hl 0 rfl) ?_
  refine lv_iload_n hx hb dX5_cell_2 rfl (lv_at hl 1 rfl) ?_
  refine lv_iload_n hx hb dX5_cell_3 rfl (lv_at hl 3 rfl) ?_
  refine kl_cVi (C := RX5) (i := 26) (As := [.int t, .int c]) (rest := [.ref (B + 26)]) ⟨hx, hb, hml, hown, hts⟩ (c_X5_isColumn l G B _ t c q26 q27 (by omega) hcn4) (cwV 2 hts gX5_cell_X5_isColumn rfl rfl rfl (by decide +kernel) ⟨Nat.le_of_ble_eq_true rfl, Nat.le_of_ble_eq_true rfl⟩) hK hP q26 rfl rfl hl.1 rfl (Nat.le_of_ble_eq_true rfl) dX5_cell_4 ⟨Nat.le_of_ble_eq_true rfl, Nat.le_of_ble_eq_true rfl⟩ (fun r3 w1 H locs q2 hP => ?_)
  obtain ⟨rfl, hv4⟩ := q2
  refine kl_ifne (tgt := 14) hx hb hv4 dX5_cell_7 (by decide) (fun c7 => ?_) (fun c7 => ?_)
  · have hok := c7
    have htn : t ≠ -1 := by obtain ⟨j9, k9, z1, z2, z3⟩ := c7; rw [z2]; exact kl_nm1 (by omega)
    refine lv_iload_n hx hb dX5_cell_14 rfl (lv_at hl 2 rfl) ?_
    refine lv_if_eq (tgt := 27) hx hb dX5_cell_15 (by decide) (fun c15 => ?_) (fun c15 => ?_)
    · refine lv_iconst (v := nI 2) hx hb dX5_cell_27 (by decide) ?_
      refine lv_goto (tgt := 32) hx hb dX5_cell_28 (by decide) ?_
      refine kl_put (C := RX5) (T := TX5) (N := 31) (ci := 5) (v := .int (nI 2)) (ty := .int) hx hb hts hinX5 tyX5 tyX5_ok nmX5 hown hK hP q26 rfl 0 (by decide) (hts (.fieldLink RX5 71 "KinLedgerModel" "code" "I") (by decide +kernel)) (fun _ h9 => h9) rfl (by decide +kernel) rfl rfl (Nat.le_of_ble_eq_true rfl) dX5_cell_32 (fun w5 H locs f6 fr7 hzw5 hP => ?_)
      have f6 : w5 26 = some (.inr (5, [.int (nI 2), .int rs, .int (nI nT), .ref (B + 27), .int (nI n), .ref (B + 28), .ref (B + 29), .int (nI on), .ref (B + 30), .ref (B + 31), .ref (B + 32), .int (nI nL), .ref (B + 33), .ref (B + 34), .ref (B + 35), .ref (B + 36), .int (nI nS), .ref (B + 37), .ref (B + 38), .int (nI nC), .ref (B + 39), .ref (B + 40), .ref (B + 41), .int (nI nW), .ref (B + 42), .int hi, .ref (B + 43), .int (nI nM), .ref (B + 44), .ref (B + 45), .ref (B + 46)])) := f6
      have q27 : w5 27 = some (kl_aI G 4 ((fun t => nI (cn t)))) := (fr7 _ (by decide)).trans q27
      have q28 : w5 28 = some (kl_aI G 24 O) := (fr7 _ (by decide)).trans q28
      have q29 : w5 29 = some (kl_aI G 96 D) := (fr7 _ (by decide)).trans q29
      have frm : ∀ j : Nat, j ≠ 26 → w5 j = w j := fun j k0 => (fr7 j k0).trans (frm j k0)
      refine lv_aload_n hx hb dX5_cell_35 rfl (lv_at hl 0 rfl) ?_
      refine kl_get (C := RX5) (T := TX5) (N := 31) (ci := 5) hx hb hts hinX5 hown hK hP f6 rfl 0 (by decide) (hts (.fieldLink RX5 71 "KinLedgerModel" "code" "I") (by decide +kernel)) (fun _ h9 => h9) rfl dX5_cell_36 ?_
      refine kl_z_le (tgt := 44) hx hb (by omega) dX5_cell_39 (by decide) (fun c39 => absurd c39 (by omega)) (fun c39 => ?_)
      refine lv_iconst (v := nI 0) hx hb dX5_cell_42 (by decide) ?_
      exact kl_iret hx hb hr hlocks hP (Or.inr (Or.inl (⟨hok, Or.inl c15, f6, frm⟩))) dX5_cell_43
    · refine lv_aload_n hx hb dX5_cell_18 rfl (lv_at hl 0 rfl) ?_
      refine lv_iload_n hx hb dX5_cell_19 rfl (lv_at hl 1 rfl) ?_
      refine lv_iload_n hx hb dX5_cell_20 rfl (lv_at hl 2 rfl) ?_
      refine kl_cVi (C := RX5) (i := 26) (As := [.int t, .int k]) (rest := [.ref (B + 26)]) ⟨hx, hb, hml, hown, hts⟩ (c_X5_find l G B _ t k q26 q28 q29 (by omega) htn) (cwV 2 hts gX5_cell_X5_find rfl rfl rfl (by decide +kernel) ⟨Nat.le_of_ble_eq_true rfl, Nat.le_of_ble_eq_true rfl⟩) hK hP q26 rfl rfl hl.1 rfl (Nat.le_of_ble_eq_true rfl) dX5_cell_21 ⟨Nat.le_of_ble_eq_true rfl, Nat.le_of_ble_eq_true rfl⟩ (fun r10 w8 H locs q9 hP => ?_)
      obtain ⟨rfl, hv11⟩ := q9
      rcases hv11 with ⟨rfl, hv11⟩ | ⟨p12, hp12, rfl, hv11⟩
      · refine lv_if_ge (tgt := 31) hx hb dX5_cell_24 (by decide) (fun c24 => absurd c24 (by decide)) (fun c24 => ?_)
        refine lv_iconst (v := nI 2) hx hb dX5_cell_27 (by decide) ?_
        refine lv_goto (tgt := 32) hx hb dX5_cell_28 (by decide) ?_
        refine kl_put (C := RX5) (T := TX5) (N := 31) (ci := 5) (v := .int (nI 2)) (ty := .int) hx hb hts hinX5 tyX5 tyX5_ok nmX5 hown hK hP q26 rfl 0 (by decide) (hts (.fieldLink RX5 71 "KinLedgerModel" "code" "I") (by decide +kernel)) (fun _ h9 => h9) rfl (by decide +kernel) rfl rfl (Nat.le_of_ble_eq_true rfl) dX5_cell_32 (fun w13 H locs f14 fr15 hzw13 hP => ?_)
        have f14 : w13 26 = some (.inr (5, [.int (nI 2), .int rs, .int (nI nT), .ref (B + 27), .int (nI n), .ref (B + 28), .ref (B + 29), .int (nI on), .ref (B + 30), .ref (B + 31), .ref (B + 32), .int (nI nL), .ref (B + 33), .ref (B + 34), .ref (B + 35), .ref (B + 36), .int (nI nS), .ref (B + 37), .ref (B + 38), .int (nI nC), .ref (B + 39), .ref (B + 40), .ref (B + 41), .int (nI nW), .ref (B + 42), .int hi, .ref (B + 43), .int (nI nM), .ref (B + 44), .ref (B + 45), .ref (B + 46)])) := f14
        have q27 : w13 27 = some (kl_aI G 4 ((fun t => nI (cn t)))) := (fr15 _ (by decide)).trans q27
        have q28 : w13 28 = some (kl_aI G 24 O) := (fr15 _ (by decide)).trans q28
        have q29 : w13 29 = some (kl_aI G 96 D) := (fr15 _ (by decide)).trans q29
        have frm : ∀ j : Nat, j ≠ 26 → w13 j = w j := fun j k0 => (fr15 j k0).trans (frm j k0)
        refine lv_aload_n hx hb dX5_cell_35 rfl (lv_at hl 0 rfl) ?_
        refine kl_get (C := RX5) (T := TX5) (N := 31) (ci := 5) hx hb hts hinX5 hown hK hP f14 rfl 0 (by decide) (hts (.fieldLink RX5 71 "KinLedgerModel" "code" "I") (by decide +kernel)) (fun _ h9 => h9) rfl dX5_cell_36 ?_
        refine kl_z_le (tgt := 44) hx hb (by omega) dX5_cell_39 (by decide) (fun c39 => absurd c39 (by omega)) (fun c39 => ?_)
        refine lv_iconst (v := nI 0) hx hb dX5_cell_42 (by decide) ?_
        exact kl_iret hx hb hr hlocks hP (Or.inr (Or.inl (⟨hok, Or.inr (mt_has_n hv11), f14, frm⟩))) dX5_cell_43
      · refine kl_z_ge (tgt := 31) hx hb (by omega) dX5_cell_24 (by decide) ?_
        refine lv_iconst (v := nI 0) hx hb dX5_cell_31 (by decide) ?_
        refine kl_put (C := RX5) (T := TX5) (N := 31) (ci := 5) (v := .int (nI 0)) (ty := .int) hx hb hts hinX5 tyX5 tyX5_ok nmX5 hown hK hP q26 rfl 0 (by decide) (hts (.fieldLink RX5 71 "KinLedgerModel" "code" "I") (by decide +kernel)) (fun _ h9 => h9) rfl (by decide +kernel) rfl rfl (Nat.le_of_ble_eq_true rfl) dX5_cell_32 (fun w16 H locs f17 fr18 hzw16 hP => ?_)
        have f17 : w16 26 = some (.inr (5, [.int (nI 0), .int rs, .int (nI nT), .ref (B + 27), .int (nI n), .ref (B + 28), .ref (B + 29), .int (nI on), .ref (B + 30), .ref (B + 31), .ref (B + 32), .int (nI nL), .ref (B + 33), .ref (B + 34), .ref (B + 35), .ref (B + 36), .int (nI nS), .ref (B + 37), .ref (B + 38), .int (nI nC), .ref (B + 39), .ref (B + 40), .ref (B + 41), .int (nI nW), .ref (B + 42), .int hi, .ref (B + 43), .int (nI nM), .ref (B + 44), .ref (B + 45), .ref (B + 46)])) := f17
        have q27 : w16 27 = some (kl_aI G 4 ((fun t => nI (cn t)))) := (fr18 _ (by decide)).trans q27
        have q28 : w16 28 = some (kl_aI G 24 O) := (fr18 _ (by decide)).trans q28
        have q29 : w16 29 = some (kl_aI G 96 D) := (fr18 _ (by decide)).trans q29
        have frm : ∀ j : Nat, j ≠ 26 → w16 j = w j := fun j k0 => (fr18 j k0).trans (frm j k0)
        refine lv_aload_n hx hb dX5_cell_35 rfl (lv_at hl 0 rfl) ?_
        refine kl_get (C := RX5) (T := TX5) (N := 31) (ci := 5) hx hb hts hinX5 hown hK hP f17 rfl 0 (by decide) (hts (.fieldLink RX5 71 "KinLedgerModel" "code" "I") (by decide +kernel)) (fun _ h9 => h9) rfl dX5_cell_36 ?_
        refine kl_z_le (tgt := 44) hx hb (by omega) dX5_cell_39 (by decide) (fun c39 => ?_) (fun c39 => absurd c39 (by omega))
        refine lv_aload_n hx hb dX5_cell_44 rfl (lv_at hl 0 rfl) ?_
        refine lv_iload_n hx hb dX5_cell_45 rfl (lv_at hl 1 rfl) ?_
        refine lv_iload_n hx hb dX5_cell_46 rfl (lv_at hl 2 rfl) ?_
        refine kl_cVi (C := RX5) (i := 26) (As := [.int t, .int k]) (rest := []) ⟨hx, hb, hml, hown, hts⟩ (c_X5_find l G B _ t k f17 q28 q29 (by omega) htn) (cwV 2 hts gX5_cell_X5_find rfl rfl rfl (by decide +kernel) ⟨Nat.le_of_ble_eq_true rfl, Nat.le_of_ble_eq_true rfl⟩) hK hP f17 rfl rfl hl.1 rfl (Nat.le_of_ble_eq_true rfl) dX5_cell_47 ⟨Nat.le_of_ble_eq_true rfl, Nat.le_of_ble_eq_true rfl⟩ (fun r21 w19 H locs q20 hP => ?_)
        obtain ⟨rfl, hv22⟩ := q20
        rcases hv22 with ⟨rfl, hv22⟩ | ⟨p23, hp23, rfl, hv22⟩
        · refine lv_istore (lv' := [(4, .int ((-1))), (0, .ref (B + 26)), (1, .int t), (2, .int k), (3, .int c)]) hx hb dX5_cell_50 hl (by decide) rfl (fun ls hl => ?_)
          exact absurd ⟨p12, hp12, hv11⟩ (mt_has_n hv22)
        · refine lv_istore (lv' := [(4, .int (nI p23)), (0, .ref (B + 26)), (1, .int t), (2, .int k), (3, .int c)]) hx hb dX5_cell_50 hl (by decide) rfl (fun ls hl => ?_)
          obtain ⟨hpn, hpt⟩ := md_ne htn hv22.1
          obtain ⟨jj, q, hjj, htt, hq4, hcq⟩ := hok
          have hq5 := hcn4 jj hjj
          rw [hcq] at hl
          refine lv_aload_n hx hb dX5_cell_52 rfl (lv_at hl 1 rfl) ?_
          refine kl_get (C := RX5) (T := TX5) (N := 31) (ci := 5) hx hb hts hinX5 hown hK hP f17 rfl 6 (by decide) (hts (.fieldLink RX5 16 "KinLedgerModel" "cells" "[I") (by decide +kernel)) (fun _ h9 => h9) rfl dX5_cell_53 ?_
          refine lv_iconst (v := nI 4) hx hb dX5_cell_56 (by decide) ?_
          refine lv_iload hx hb dX5_cell_57 (lv_at hl 0 rfl) ?_
          refine lv_imul hx hb dX5_cell_59 ?_
          refine kl_top (z := nI (4 * p23)) (pk_mul _ _) ?_
          refine lv_iload_n hx hb dX5_cell_60 rfl (lv_at hl 4 rfl) ?_
          refine lv_iadd hx hb dX5_cell_61 ?_
          refine kl_top (z := nI (4 * p23 + q)) (by first | exact nI_add _ _ | (rw [nI_add]; first | rfl | (congr 1; omega))) ?_
          refine kl_iald hx hb hK hP q29 (by omega) (by omega) dX5_cell_62 ?_
          exact kl_iret hx hb hr hlocks hP (Or.inr (Or.inr (⟨⟨jj, q, hjj, htt, hq4, hcq⟩, c15, ⟨p23, q, hpn, hpt, hv22.2, by omega, hcq, rfl⟩, f17, frm⟩))) dX5_cell_63
  · refine lv_iconst (v := nI 1) hx hb dX5_cell_10 (by decide) ?_
    refine lv_goto (tgt := 32) hx hb dX5_cell_11 (by decide) ?_
    refine kl_put (C := RX5) (T := TX5) (N := 31) (ci := 5) (v := .int (nI 1)) (ty := .int) hx hb hts hinX5 tyX5 tyX5_ok nmX5 hown hK hP q26 rfl 0 (by decide) (hts (.fieldLink RX5 71 "KinLedgerModel" "code" "I") (by decide +kernel)) (fun _ h9 => h9) rfl (by decide +kernel) rfl rfl (Nat.le_of_ble_eq_true rfl) dX5_cell_32 (fun w24 H locs f25 fr26 hzw24 hP => ?_)
    have f25 : w24 26 = some (.inr (5, [.int (nI 1), .int rs, .int (nI nT), .ref (B + 27), .int (nI n), .ref (B + 28), .ref (B + 29), .int (nI on), .ref (B + 30), .ref (B + 31), .ref (B + 32), .int (nI nL), .ref (B + 33), .ref (B + 34), .ref (B + 35), .ref (B + 36), .int (nI nS), .ref (B + 37), .ref (B + 38), .int (nI nC), .ref (B + 39), .ref (B + 40), .ref (B + 41), .int (nI nW), .ref (B + 42), .int hi, .ref (B + 43), .int (nI nM), .ref (B + 44), .ref (B + 45), .ref (B + 46)])) := f25
    have q27 : w24 27 = some (kl_aI G 4 ((fun t => nI (cn t)))) := (fr26 _ (by decide)).trans q27
    have q28 : w24 28 = some (kl_aI G 24 O) := (fr26 _ (by decide)).trans q28
    have q29 : w24 29 = some (kl_aI G 96 D) := (fr26 _ (by decide)).trans q29
    have frm : ∀ j : Nat, j ≠ 26 → w24 j = w j := fun j k0 => (fr26 j k0).trans (frm j k0)
    refine lv_aload_n hx hb dX5_cell_35 rfl (lv_at hl 0 rfl) ?_
    refine kl_get (C := RX5) (T := TX5) (N := 31) (ci := 5) hx hb hts hinX5 hown hK hP f25 rfl 0 (by decide) (hts (.fieldLink RX5 71 "KinLedgerModel" "code" "I") (by decide +kernel)) (fun _ h9 => h9) rfl dX5_cell_36 ?_
    refine kl_z_le (tgt := 44) hx hb (by omega) dX5_cell_39 (by decide) (fun c39 => absurd c39 (by omega)) (fun c39 => ?_)
    refine lv_iconst (v := nI 0) hx hb dX5_cell_42 (by decide) ?_
    exact kl_iret hx hb hr hlocks hP (Or.inl (⟨c7, f25, frm⟩)) dX5_cell_43

abbrev rm_X5_key : Room := { frames := 1, cells := 0, slots := 0, locals := 21 }
set_option maxHeartbeats 4000000 in
set_option maxRecDepth 100000 in
theorem c_X5_key (l : Launch) (G : kl_G) (B : Nat) (w : kl_M) {nT nL nS nC nW nM n on : Nat} {ec rs hi : Int32} {O D : Nat → Int32} (t k : Int32) (q26 : w 26 = some (.inr (5, [.int ec, .int rs, .int (nI nT), .ref (B + 27), .int (nI n), .ref (B + 28), .ref (B + 29), .int (nI on), .ref (B + 30), .ref (B + 31), .ref (B + 32), .int (nI nL), .ref (B + 33), .ref (B + 34), .ref (B + 35), .ref (B + 36), .int (nI nS), .ref (B + 37), .ref (B + 38), .int (nI nC), .ref (B + 39), .ref (B + 40), .ref (B + 41), .int (nI nW), .ref (B + 42), .int hi, .ref (B + 43), .int (nI nM), .ref (B + 44), .ref (B + 45), .ref (B + 46)]))) (q28 : w 28 = some (kl_aI G 24 O)) (q29 : w 29 = some (kl_aI G 96 D)) (hnT : nT ≤ 4) (hn : n ≤ 24) : Met l yX5_key wsX5_key rm_X5_key (kl_Pc G B w [.ref (B + 26), .int t, .int k]) (kl_Qi G B (fun r w1 => (¬ mt_tab t nT ∧ w1 26 = some (.inr (5, [.int (nI 1), .int rs, .int (nI nT), .ref (B + 27), .int (nI n), .ref (B + 28), .ref (B + 29), .int (nI on), .ref (B + 30), .ref (B + 31), .ref (B + 32), .int (nI nL), .ref (B + 33), .ref (B + 34), .ref (B + 35), .ref (B + 36), .int (nI nS), .ref (B + 37), .ref (B + 38), .int (nI nC), .ref (B + 39), .ref (B + 40), .ref (B + 41), .int (nI nW), .ref (B + 42), .int hi, .ref (B + 43), .int (nI nM), .ref (B + 44), .ref (B + 45), .ref (B + 46)])) ∧ ∀ j : Nat, j ≠ 26 → w1 j = w j) ∨ (mt_tab t nT ∧ (∀ a, a < 24 → ¬ (md_T n O a = t ∧ nI (mt_less (md_T n O) D t (D (4 * a))) = k)) ∧ w1 26 = some (.inr (5, [.int (nI 2), .int rs, .int (nI nT), .ref (B + 27), .int (nI n), .ref (B + 28), .ref (B + 29), .int (nI on), .ref (B + 30), .ref (B + 31), .ref (B + 32), .int (nI nL), .ref (B + 33), .ref (B + 34), .ref (B + 35), .ref (B + 36), .int (nI nS), .ref (B + 37), .ref (B + 38), .int (nI nC), .ref (B + 39), .ref (B + 40), .ref (B + 41), .int (nI nW), .ref (B + 42), .int hi, .ref (B + 43), .int (nI nM), .ref (B + 44), .ref (B + 45), .ref (B + 46)])) ∧ ∀ j : Nat, j ≠ 26 → w1 j = w j) ∨ (mt_tab t nT ∧ (∃ p, p < 24 ∧ md_T n O p = t ∧ nI (mt_less (md_T n O) D t (D (4 * p))) = k ∧ r = D (4 * p)) ∧ w1 26 = some (.inr (5, [.int (nI 0), .int rs, .int (nI nT), .ref (B + 27), .int (nI n), .ref (B + 28), .ref (B + 29), .int (nI on), .ref (B + 30), .ref (B + 31), .ref (B + 32), .int (nI nL), .ref (B + 33), .ref (B + 34), .ref (B + 35), .ref (B + 36), .int (nI nS), .ref (B + 37), .ref (B + 38), .int (nI nC), .ref (B + 39), .ref (B + 40), .ref (B + 41), .int (nI nW), .ref (B + 42), .int hi, .ref (B + 43), .int (nI nM), .ref (B + 44), .ref (B + 45), .ref (B + 46)])) ∧ ∀ j : Nat, j ≠ 26 → w1 j = w j))) 0 0 (kl_fr B) := by
  refine Met.ofW (cc := cX5_key) (maxL := 6) (ret := (some .int)) (by decide) rfl ?_
  intro pg e s m args below meth cd s₁ Bd hml hv
  obtain ⟨rfl, hP0, hK⟩ := hv
  have hx := Bd.exec
  have hb := Bd.bytes
  have hr := Bd.returns
  have hts := atoms_spec (ws := wsX5_key) Bd.pre
  have hown : s.vm.findClass RX5 = some m.cls := findClass_of_methodNamed Bd.named
  have hlocks := Bd.notSynchronized
  have hinX5 : ∀ w ∈ u_ws RX5 TX5 31, w ∈ wsX5_key := by decide +kernel
  have hP := kl_S.rf hP0
  have hl := lv_entry ([.ref (B + 26), .int t, .int k]) (n := 6) (Nat.le_of_ble_eq_true rfl)
  rw [lg_entry_eq]
  generalize (lg_sl ([.ref (B + 26), .int t, .int k]) ++ List.replicate (6 - (lg_sl ([.ref (B + 26), .int t, .int k])).length) Slot.unset).toArray = ls at hl ⊢
  have hl : lv_has ls 6 [(0, .ref (B + 26)), (1, .int t), (2, .int k)] := hl
  have frm : ∀ j : Nat, j ≠ 26 → w j = w j := fun j _ => rfl
  refine lv_aload_n hx hb dX5_key_0 rfl (lv_at hl 0 rfl) ?_
  refine lv_aload_n hx hb dX5_key_1 rfl (lv_at hl 0 rfl) ?_
  refine lv_iload_n hx hb dX5_key_2 rfl (lv_at hl 1 rfl) ?_
  refine kl_cVi (C := RX5) (i := 26) (As := [.int t]) (rest := [.ref (B + 26)]) ⟨hx, hb, hml, hown, hts⟩ (c_X5_isTable l G B _ t q26 (by omega)) (cwV 1 hts gX5_key_X5_isTable rfl rfl rfl (by decide +kernel) ⟨Nat.le_of_ble_eq_true rfl, Nat.le_of_ble_eq_true rfl⟩) hK hP q26 rfl rfl hl.1 rfl (Nat.le_of_ble_eq_true rfl) dX5_key_3 ⟨Nat.le_of_ble_eq_true rfl, Nat.le_of_ble_eq_true rfl⟩ (fun r3 w1 H locs q2 hP => ?_)
  obtain ⟨rfl, hv4⟩ := q2
  refine kl_ifeq (tgt := 13) hx hb hv4 dX5_key_6 (by decide) (fun c6 => ?_) (fun c6 => ?_)
  · refine lv_iconst (v := nI 1) hx hb dX5_key_13 (by decide) ?_
    refine kl_put (C := RX5) (T := TX5) (N := 31) (ci := 5) (v := .int (nI 1)) (ty := .int) hx hb hts hinX5 tyX5 tyX5_ok nmX5 hown hK hP q26 rfl 0 (by decide) (hts (.fieldLink RX5 71 "KinLedgerModel" "code" "I") (by decide +kernel)) (fun _ h9 => h9) rfl (by decide +kernel) rfl rfl (Nat.le_of_ble_eq_true rfl) dX5_key_14 (fun w5 H locs f6 fr7 hzw5 hP => ?_)
    have f6 : w5 26 = some (.inr (5, [.int (nI 1), .int rs, .int (nI nT), .ref (B + 27), .int (nI n), .ref (B + 28), .ref (B + 29), .int (nI on), .ref (B + 30), .ref (B + 31), .ref (B + 32), .int (nI nL), .ref (B + 33), .ref (B + 34), .ref (B + 35), .ref (B + 36), .int (nI nS), .ref (B + 37), .ref (B + 38), .int (nI nC), .ref (B + 39), .ref (B + 40), .ref (B + 41), .int (nI nW), .ref (B + 42), .int hi, .ref (B + 43), .int (nI nM), .ref (B + 44), .ref (B + 45), .ref (B + 46)])) := f6
    have q28 : w5 28 = some (kl_aI G 24 O) := (fr7 _ (by decide)).trans q28
    have q29 : w5 29 = some (kl_aI G 96 D) := (fr7 _ (by decide)).trans q29
    have frm : ∀ j : Nat, j ≠ 26 → w5 j = w j := fun j k0 => (fr7 j k0).trans (frm j k0)
    refine lv_aload_n hx hb dX5_key_17 rfl (lv_at hl 0 rfl) ?_
    refine kl_get (C := RX5) (T := TX5) (N := 31) (ci := 5) hx hb hts hinX5 hown hK hP f6 rfl 0 (by decide) (hts (.fieldLink RX5 71 "KinLedgerModel" "code" "I") (by decide +kernel)) (fun _ h9 => h9) rfl dX5_key_18 ?_
    refine kl_z_le (tgt := 26) hx hb (by omega) dX5_key_21 (by decide) (fun c21 => absurd c21 (by omega)) (fun c21 => ?_)
    refine lv_iconst (v := nI 0) hx hb dX5_key_24 (by decide) ?_
    exact kl_iret hx hb hr hlocks hP (Or.inl (⟨c6, f6, frm⟩)) dX5_key_25
  · have hok := c6
    have htn : t ≠ -1 := by obtain ⟨j9, z1, z2⟩ := c6; rw [z2]; exact kl_nm1 (by omega)
    refine lv_iconst (v := nI 0) hx hb dX5_key_9 (by decide) ?_
    refine lv_goto (tgt := 14) hx hb dX5_key_10 (by decide) ?_
    refine kl_put (C := RX5) (T := TX5) (N := 31) (ci := 5) (v := .int (nI 0)) (ty := .int) hx hb hts hinX5 tyX5 tyX5_ok nmX5 hown hK hP q26 rfl 0 (by decide) (hts (.fieldLink RX5 71 "KinLedgerModel" "code" "I") (by decide +kernel)) (fun _ h9 => h9) rfl (by decide +kernel) rfl rfl (Nat.le_of_ble_eq_true rfl) dX5_key_14 (fun w8 H locs f9 fr10 hzw8 hP => ?_)
    have f9 : w8 26 = some (.inr (5, [.int (nI 0), .int rs, .int (nI nT), .ref (B + 27), .int (nI n), .ref (B + 28), .ref (B + 29), .int (nI on), .ref (B + 30), .ref (B + 31), .ref (B + 32), .int (nI nL), .ref (B + 33), .ref (B + 34), .ref (B + 35), .ref (B + 36), .int (nI nS), .ref (B + 37), .ref (B + 38), .int (nI nC), .ref (B + 39), .ref (B + 40), .ref (B + 41), .int (nI nW), .ref (B + 42), .int hi, .ref (B + 43), .int (nI nM), .ref (B + 44), .ref (B + 45), .ref (B + 46)])) := f9
    have q28 : w8 28 = some (kl_aI G 24 O) := (fr10 _ (by decide)).trans q28
    have q29 : w8 29 = some (kl_aI G 96 D) := (fr10 _ (by decide)).trans q29
    have frm : ∀ j : Nat, j ≠ 26 → w8 j = w j := fun j k0 => (fr10 j k0).trans (frm j k0)
    refine lv_aload_n hx hb dX5_key_17 rfl (lv_at hl 0 rfl) ?_
    refine kl_get (C := RX5) (T := TX5) (N := 31) (ci := 5) hx hb hts hinX5 hown hK hP f9 rfl 0 (by decide) (hts (.fieldLink RX5 71 "KinLedgerModel" "code" "I") (by decide +kernel)) (fun _ h9 => h9) rfl dX5_key_18 ?_
    refine kl_z_le (tgt := 26) hx hb (by omega) dX5_key_21 (by decide) (fun c21 => ?_) (fun c21 => absurd c21 (by omega))
    refine lv_iconst (v := nI 0) hx hb dX5_key_26 (by decide) ?_
    refine lv_istore_n (lv' := [(3, .int (nI 0)), (0, .ref (B + 26)), (1, .int t), (2, .int k)]) hx hb dX5_key_27 rfl hl (by decide) rfl (fun ls hl => ?_)
    have lp28 : ∀ (n28 : Nat) (p : Nat), n - p < n28 → (p ≤ n) → (∀ a, a < p → ¬ (md_T n O a = t ∧ nI (mt_less (md_T n O) D t (D (4 * a))) = k)) → ∀ (w1 : kl_M) (H : Heap) (locs : List Loc), w1 26 = some (.inr (5, [.int (nI 0), .int rs, .int (nI nT), .ref (B + 27), .int (nI n), .ref (B + 28), .ref (B + 29), .int (nI on), .ref (B + 30), .ref (B + 31), .ref (B + 32), .int (nI nL), .ref (B + 33), .ref (B + 34), .ref (B + 35), .ref (B + 36), .int (nI nS), .ref (B + 37), .ref (B + 38), .int (nI nC), .ref (B + 39), .ref (B + 40), .ref (B + 41), .int (nI nW), .ref (B + 42), .int hi, .ref (B + 43), .int (nI nM), .ref (B + 44), .ref (B + 45), .ref (B + 46)])) → w1 28 = some (kl_aI G 24 O) → w1 29 = some (kl_aI G 96 D) → (∀ j : Nat, j ≠ 26 → w1 j = w j) → kl_S G B w1 s.heap H locs → ∀ ls : Array Slot, lv_has ls 6 [(0, .ref (B + 26)), (1, .int t), (2, .int k), (3, .int (nI p))] → W pg l e rm_X5_key s m ([.ref (B + 26), .int t, .int k] : List Value).toArray below meth cd H locs (0 + 0) (0 + 0) (MQ below (kl_Qi G B (fun r w1 => (¬ mt_tab t nT ∧ w1 26 = some (.inr (5, [.int (nI 1), .int rs, .int (nI nT), .ref (B + 27), .int (nI n), .ref (B + 28), .ref (B + 29), .int (nI on), .ref (B + 30), .ref (B + 31), .ref (B + 32), .int (nI nL), .ref (B + 33), .ref (B + 34), .ref (B + 35), .ref (B + 36), .int (nI nS), .ref (B + 37), .ref (B + 38), .int (nI nC), .ref (B + 39), .ref (B + 40), .ref (B + 41), .int (nI nW), .ref (B + 42), .int hi, .ref (B + 43), .int (nI nM), .ref (B + 44), .ref (B + 45), .ref (B + 46)])) ∧ ∀ j : Nat, j ≠ 26 → w1 j = w j) ∨ (mt_tab t nT ∧ (∀ a, a < 24 → ¬ (md_T n O a = t ∧ nI (mt_less (md_T n O) D t (D (4 * a))) = k)) ∧ w1 26 = some (.inr (5, [.int (nI 2), .int rs, .int (nI nT), .ref (B + 27), .int (nI n), .ref (B + 28), .ref (B + 29), .int (nI on), .ref (B + 30), .ref (B + 31), .ref (B + 32), .int (nI nL), .ref (B + 33), .ref (B + 34), .ref (B + 35), .ref (B + 36), .int (nI nS), .ref (B + 37), .ref (B + 38), .int (nI nC), .ref (B + 39), .ref (B + 40), .ref (B + 41), .int (nI nW), .ref (B + 42), .int hi, .ref (B + 43), .int (nI nM), .ref (B + 44), .ref (B + 45), .ref (B + 46)])) ∧ ∀ j : Nat, j ≠ 26 → w1 j = w j) ∨ (mt_tab t nT ∧ (∃ p, p < 24 ∧ md_T n O p = t ∧ nI (mt_less (md_T n O) D t (D (4 * p))) = k ∧ r = D (4 * p)) ∧ w1 26 = some (.inr (5, [.int (nI 0), .int rs, .int (nI nT), .ref (B + 27), .int (nI n), .ref (B + 28), .ref (B + 29), .int (nI on), .ref (B + 30), .ref (B + 31), .ref (B + 32), .int (nI nL), .ref (B + 33), .ref (B + 34), .ref (B + 35), .ref (B + 36), .int (nI nS), .ref (B + 37), .ref (B + 38), .int (nI nC), .ref (B + 39), .ref (B + 40), .ref (B + 41), .int (nI nW), .ref (B + 42), .int hi, .ref (B + 43), .int (nI nM), .ref (B + 44), .ref (B + 45), .ref (B + 46)])) ∧ ∀ j : Nat, j ≠ 26 → w1 j = w j))) ([.ref (B + 26), .int t, .int k] : List Value).toArray s 0 0 (kl_fr B)) (F0 m 28 ls []) := by
      intro n28
      induction n28 with
      | zero => intro p hm; exact absurd hm (Nat.not_lt_zero _)
      | succ n28 ih28 =>
        intro p hm hp hno w1 H locs f9 q28 q29 frm hP ls hl
        refine lv_iload_n hx hb dX5_key_28 rfl (lv_at hl 3 rfl) ?_
        refine lv_aload_n hx hb dX5_key_29 rfl (lv_at hl 0 rfl) ?_
        refine kl_get (C := RX5) (T := TX5) (N := 31) (ci := 5) hx hb hts hinX5 hown hK hP f9 rfl 4 (by decide) (hts (.fieldLink RX5 82 "KinLedgerModel" "rows" "I") (by decide +kernel)) (fun _ h9 => h9) rfl dX5_key_30 ?_
        refine kl_ge (tgt := 129) hx hb (by omega) (by omega) dX5_key_33 (by decide) (fun c33 => ?_) (fun c33 => ?_)
        · refine lv_aload_n hx hb dX5_key_129 rfl (lv_at hl 0 rfl) ?_
          refine lv_iconst (v := nI 2) hx hb dX5_key_130 (by decide) ?_
          refine kl_put (C := RX5) (T := TX5) (N := 31) (ci := 5) (v := .int (nI 2)) (ty := .int) hx hb hts hinX5 tyX5 tyX5_ok nmX5 hown hK hP f9 rfl 0 (by decide) (hts (.fieldLink RX5 71 "KinLedgerModel" "code" "I") (by decide +kernel)) (fun _ h9 => h9) rfl (by decide +kernel) rfl rfl (Nat.le_of_ble_eq_true rfl) dX5_key_131 (fun w11 H locs f12 fr13 hzw11 hP => ?_)
          have f12 : w11 26 = some (.inr (5, [.int (nI 2), .int rs, .int (nI nT), .ref (B + 27), .int (nI n), .ref (B + 28), .ref (B + 29), .int (nI on), .ref (B + 30), .ref (B + 31), .ref (B + 32), .int (nI nL), .ref (B + 33), .ref (B + 34), .ref (B + 35), .ref (B + 36), .int (nI nS), .ref (B + 37), .ref (B + 38), .int (nI nC), .ref (B + 39), .ref (B + 40), .ref (B + 41), .int (nI nW), .ref (B + 42), .int hi, .ref (B + 43), .int (nI nM), .ref (B + 44), .ref (B + 45), .ref (B + 46)])) := f12
          have q28 : w11 28 = some (kl_aI G 24 O) := (fr13 _ (by decide)).trans q28
          have q29 : w11 29 = some (kl_aI G 96 D) := (fr13 _ (by decide)).trans q29
          have frm : ∀ j : Nat, j ≠ 26 → w11 j = w j := fun j k0 => (fr13 j k0).trans (frm j k0)
          refine lv_iconst (v := nI 0) hx hb dX5_key_134 (by decide) ?_
          exact kl_iret hx hb hr hlocks hP (Or.inr (Or.inl (⟨hok, fun a ha z => hno a (by have := (md_ne htn z.1).1; omega) z, f12, frm⟩))) dX5_key_135
        · refine lv_iconst (v := nI 0) hx hb dX5_key_36 (by decide) ?_
          refine lv_istore (lv' := [(4, .int (nI 0)), (0, .ref (B + 26)), (1, .int t), (2, .int k), (3, .int (nI p))]) hx hb dX5_key_37 hl (by decide) rfl (fun ls hl => ?_)
          refine lv_iconst (v := nI 0) hx hb dX5_key_39 (by decide) ?_
          refine lv_istore (lv' := [(5, .int (nI 0)), (4, .int (nI 0)), (0, .ref (B + 26)), (1, .int t), (2, .int k), (3, .int (nI p))]) hx hb dX5_key_40 hl (by decide) rfl (fun ls hl => ?_)
          have lp42 : ∀ (n42 : Nat) (q9 : Nat) (l9 : Nat), n - q9 < n42 → (q9 ≤ n) → (l9 = mt_ct (fun a => md_T n O a = t ∧ D (4 * a) < D (4 * p)) q9) → ∀ (w1 : kl_M) (H : Heap) (locs : List Loc), w1 26 = some (.inr (5, [.int (nI 0), .int rs, .int (nI nT), .ref (B + 27), .int (nI n), .ref (B + 28), .ref (B + 29), .int (nI on), .ref (B + 30), .ref (B + 31), .ref (B + 32), .int (nI nL), .ref (B + 33), .ref (B + 34), .ref (B + 35), .ref (B + 36), .int (nI nS), .ref (B + 37), .ref (B + 38), .int (nI nC), .ref (B + 39), .ref (B + 40), .ref (B + 41), .int (nI nW), .ref (B + 42), .int hi, .ref (B + 43), .int (nI nM), .ref (B + 44), .ref (B + 45), .ref (B + 46)])) → w1 28 = some (kl_aI G 24 O) → w1 29 = some (kl_aI G 96 D) → (∀ j : Nat, j ≠ 26 → w1 j = w j) → kl_S G B w1 s.heap H locs → ∀ ls : Array Slot, lv_has ls 6 [(0, .ref (B + 26)), (1, .int t), (2, .int k), (3, .int (nI p)), (4, .int (nI l9)), (5, .int (nI q9))] → W pg l e rm_X5_key s m ([.ref (B + 26), .int t, .int k] : List Value).toArray below meth cd H locs (0 + 0) (0 + 0) (MQ below (kl_Qi G B (fun r w1 => (¬ mt_tab t nT ∧ w1 26 = some (.inr (5, [.int (nI 1), .int rs, .int (nI nT), .ref (B + 27), .int (nI n), .ref (B + 28), .ref (B + 29), .int (nI on), .ref (B + 30), .ref (B + 31), .ref (B + 32), .int (nI nL), .ref (B + 33), .ref (B + 34), .ref (B + 35), .ref (B + 36), .int (nI nS), .ref (B + 37), .ref (B + 38), .int (nI nC), .ref (B + 39), .ref (B + 40), .ref (B + 41), .int (nI nW), .ref (B + 42), .int hi, .ref (B + 43), .int (nI nM), .ref (B + 44), .ref (B + 45), .ref (B + 46)])) ∧ ∀ j : Nat, j ≠ 26 → w1 j = w j) ∨ (mt_tab t nT ∧ (∀ a, a < 24 → ¬ (md_T n O a = t ∧ nI (mt_less (md_T n O) D t (D (4 * a))) = k)) ∧ w1 26 = some (.inr (5, [.int (nI 2), .int rs, .int (nI nT), .ref (B + 27), .int (nI n), .ref (B + 28), .ref (B + 29), .int (nI on), .ref (B + 30), .ref (B + 31), .ref (B + 32), .int (nI nL), .ref (B + 33), .ref (B + 34), .ref (B + 35), .ref (B + 36), .int (nI nS), .ref (B + 37), .ref (B + 38), .int (nI nC), .ref (B + 39), .ref (B + 40), .ref (B + 41), .int (nI nW), .ref (B + 42), .int hi, .ref (B + 43), .int (nI nM), .ref (B + 44), .ref (B + 45), .ref (B + 46)])) ∧ ∀ j : Nat, j ≠ 26 → w1 j = w j) ∨ (mt_tab t nT ∧ (∃ p, p < 24 ∧ md_T n O p = t ∧ nI (mt_less (md_T n O) D t (D (4 * p))) = k ∧ r = D (4 * p)) ∧ w1 26 = some (.inr (5, [.int (nI 0), .int rs, .int (nI nT), .ref (B + 27), .int (nI n), .ref (B + 28), .ref (B + 29), .int (nI on), .ref (B + 30), .ref (B + 31), .ref (B + 32), .int (nI nL), .ref (B + 33), .ref (B + 34), .ref (B + 35), .ref (B + 36), .int (nI nS), .ref (B + 37), .ref (B + 38), .int (nI nC), .ref (B + 39), .ref (B + 40), .ref (B + 41), .int (nI nW), .ref (B + 42), .int hi, .ref (B + 43), .int (nI nM), .ref (B + 44), .ref (B + 45), .ref (B + 46)])) ∧ ∀ j : Nat, j ≠ 26 → w1 j = w j))) ([.ref (B + 26), .int t, .int k] : List Value).toArray s 0 0 (kl_fr B)) (F0 m 42 ls []) := by
            intro n42
            induction n42 with
            | zero => intro q9 l9 hm; exact absurd hm (Nat.not_lt_zero _)
            | succ n42 ih42 =>
              intro q9 l9 hm hq9 hk w1 H locs f9 q28 q29 frm hP ls hl
              have hl99 : l9 ≤ q9 := by rw [hk]; exact mt_ct_le _ _
              refine lv_iload hx hb dX5_key_42 (lv_at hl 5 rfl) ?_
              refine lv_aload_n hx hb dX5_key_44 rfl (lv_at hl 0 rfl) ?_
              refine kl_get (C := RX5) (T := TX5) (N := 31) (ci := 5) hx hb hts hinX5 hown hK hP f9 rfl 4 (by decide) (hts (.fieldLink RX5 82 "KinLedgerModel" "rows" "I") (by decide +kernel)) (fun _ h9 => h9) rfl dX5_key_45 ?_
              refine kl_ge (tgt := 98) hx hb (by omega) (by omega) dX5_key_48 (by decide) (fun c48 => ?_) (fun c48 => ?_)
              · have hl24 : l9 = mt_less (md_T n O) D t (D (4 * p)) := by rw [hk, show q9 = n by omega]; exact (md_ct_ext hn (fun a ha z => htn (by rw [← z.1, md_ge ha]))).symm
                refine lv_aload_n hx hb dX5_key_98 rfl (lv_at hl 0 rfl) ?_
                refine kl_get (C := RX5) (T := TX5) (N := 31) (ci := 5) hx hb hts hinX5 hown hK hP f9 rfl 5 (by decide) (hts (.fieldLink RX5 13 "KinLedgerModel" "of" "[I") (by decide +kernel)) (fun _ h9 => h9) rfl dX5_key_99 ?_
                refine lv_iload_n hx hb dX5_key_102 rfl (lv_at hl 3 rfl) ?_
                refine kl_iald hx hb hK hP q28 (by omega) (by omega) dX5_key_103 ?_
                refine lv_iload_n hx hb dX5_key_104 rfl (lv_at hl 1 rfl) ?_
                refine lv_icmp_ne (tgt := 123) hx hb dX5_key_105 (by decide) (fun c105 => ?_) (fun c105 => ?_)
                · refine lv_iinc (v := nI (p + 1)) (lv' := [(3, .int (nI (p + 1))), (0, .ref (B + 26)), (1, .int t), (2, .int k), (4, .int (nI l9)), (5, .int (nI q9))]) hx hb dX5_key_123 hl (k := 3) rfl (nI_1 _) (by decide) rfl (fun ls hl => ?_)
                  refine lv_goto (tgt := 28) hx hb dX5_key_126 (by decide) ?_
                  exact ih28 (p + 1) (by omega) (by first | omega | grind) (lt_s hno (fun z => c105 ((md_lt (by omega)).symm.trans z.1))) _ _ _ f9 q28 q29 frm hP ls (lv_sub hl [1, 2, 3, 0] rfl)
                · refine lv_iload hx hb dX5_key_108 (lv_at hl 4 rfl) ?_
                  refine lv_iload_n hx hb dX5_key_110 rfl (lv_at hl 2 rfl) ?_
                  refine lv_icmp_ne (tgt := 123) hx hb dX5_key_111 (by decide) (fun c111 => ?_) (fun c111 => ?_)
                  · refine lv_iinc (v := nI (p + 1)) (lv' := [(3, .int (nI (p + 1))), (0, .ref (B + 26)), (1, .int t), (2, .int k), (4, .int (nI l9)), (5, .int (nI q9))]) hx hb dX5_key_123 hl (k := 3) rfl (nI_1 _) (by decide) rfl (fun ls hl => ?_)
                    refine lv_goto (tgt := 28) hx hb dX5_key_126 (by decide) ?_
                    exact ih28 (p + 1) (by omega) (by first | omega | grind) (lt_s hno (fun z => c111 (by rw [hl24]; exact z.2))) _ _ _ f9 q28 q29 frm hP ls (lv_sub hl [1, 2, 3, 0] rfl)
                  · refine lv_aload_n hx hb dX5_key_114 rfl (lv_at hl 0 rfl) ?_
                    refine kl_get (C := RX5) (T := TX5) (N := 31) (ci := 5) hx hb hts hinX5 hown hK hP f9 rfl 6 (by decide) (hts (.fieldLink RX5 16 "KinLedgerModel" "cells" "[I") (by decide +kernel)) (fun _ h9 => h9) rfl dX5_key_115 ?_
                    refine lv_iconst (v := nI 4) hx hb dX5_key_118 (by decide) ?_
                    refine lv_iload_n hx hb dX5_key_119 rfl (lv_at hl 3 rfl) ?_
                    refine lv_imul hx hb dX5_key_120 ?_
                    refine kl_top (z := nI (4 * p)) (pk_mul _ _) ?_
                    refine kl_iald hx hb hK hP q29 (by omega) (by omega) dX5_key_121 ?_
                    exact kl_iret hx hb hr hlocks hP (Or.inr (Or.inr (⟨hok, ⟨p, by omega, (md_lt (by omega)).trans c105, by rw [← hl24]; exact c111, rfl⟩, f9, frm⟩))) dX5_key_122
              · refine lv_iload hx hb dX5_key_51 (lv_at hl 4 rfl) ?_
                refine lv_aload_n hx hb dX5_key_53 rfl (lv_at hl 0 rfl) ?_
                refine kl_get (C := RX5) (T := TX5) (N := 31) (ci := 5) hx hb hts hinX5 hown hK hP f9 rfl 5 (by decide) (hts (.fieldLink RX5 13 "KinLedgerModel" "of" "[I") (by decide +kernel)) (fun _ h9 => h9) rfl dX5_key_54 ?_
                refine lv_iload hx hb dX5_key_57 (lv_at hl 5 rfl) ?_
                refine kl_iald hx hb hK hP q28 (by omega) (by omega) dX5_key_59 ?_
                refine lv_iload_n hx hb dX5_key_60 rfl (lv_at hl 1 rfl) ?_
                refine lv_icmp_ne (tgt := 88) hx hb dX5_key_61 (by decide) (fun c61 => ?_) (fun c61 => ?_)
                · refine lv_iconst (v := nI 0) hx hb dX5_key_88 (by decide) ?_
                  refine lv_iadd hx hb dX5_key_89 ?_
                  refine kl_top (z := nI l9) (by first | exact nI_add _ _ | (rw [nI_add]; first | rfl | (congr 1; omega))) ?_
                  refine lv_istore (lv' := [(4, .int (nI l9)), (0, .ref (B + 26)), (1, .int t), (2, .int k), (3, .int (nI p)), (5, .int (nI q9))]) hx hb dX5_key_90 hl (by decide) rfl (fun ls hl => ?_)
                  refine lv_iinc (v := nI (q9 + 1)) (lv' := [(5, .int (nI (q9 + 1))), (4, .int (nI l9)), (0, .ref (B + 26)), (1, .int t), (2, .int k), (3, .int (nI p))]) hx hb dX5_key_92 hl (k := 5) rfl (nI_1 _) (by decide) rfl (fun ls hl => ?_)
                  refine lv_goto (tgt := 42) hx hb dX5_key_95 (by decide) ?_
                  exact ih42 (q9 + 1) l9 (by omega) (by first | omega | grind) (by rw [mt_ct_n (P := (fun a => md_T n O a = t ∧ D (4 * a) < D (4 * p))) (fun z => c61 ((md_lt (by omega)).symm.trans z.1)), ← hk]) _ _ _ f9 q28 q29 frm hP ls (lv_sub hl [2, 3, 4, 5, 1, 0] rfl)
                · refine lv_aload_n hx hb dX5_key_64 rfl (lv_at hl 0 rfl) ?_
                  refine kl_get (C := RX5) (T := TX5) (N := 31) (ci := 5) hx hb hts hinX5 hown hK hP f9 rfl 6 (by decide) (hts (.fieldLink RX5 16 "KinLedgerModel" "cells" "[I") (by decide +kernel)) (fun _ h9 => h9) rfl dX5_key_65 ?_
                  refine lv_iconst (v := nI 4) hx hb dX5_key_68 (by decide) ?_
                  refine lv_iload hx hb dX5_key_69 (lv_at hl 5 rfl) ?_
                  refine lv_imul hx hb dX5_key_71 ?_
                  refine kl_top (z := nI (4 * q9)) (pk_mul _ _) ?_
                  refine kl_iald hx hb hK hP q29 (by omega) (by omega) dX5_key_72 ?_
                  refine lv_aload_n hx hb dX5_key_73 rfl (lv_at hl 0 rfl) ?_
                  refine kl_get (C := RX5) (T := TX5) (N := 31) (ci := 5) hx hb hts hinX5 hown hK hP f9 rfl 6 (by decide) (hts (.fieldLink RX5 16 "KinLedgerModel" "cells" "[I") (by decide +kernel)) (fun _ h9 => h9) rfl dX5_key_74 ?_
                  refine lv_iconst (v := nI 4) hx hb dX5_key_77 (by decide) ?_
                  refine lv_iload_n hx hb dX5_key_78 rfl (lv_at hl 3 rfl) ?_
                  refine lv_imul hx hb dX5_key_79 ?_
                  refine kl_top (z := nI (4 * p)) (pk_mul _ _) ?_
                  refine kl_iald hx hb hK hP q29 (by omega) (by omega) dX5_key_80 ?_
                  refine lv_icmp_ge (tgt := 88) hx hb dX5_key_81 (by decide) (fun c81 => ?_) (fun c81 => ?_)
                  · refine lv_iconst (v := nI 0) hx hb dX5_key_88 (by decide) ?_
                    refine lv_iadd hx hb dX5_key_89 ?_
                    refine kl_top (z := nI l9) (by first | exact nI_add _ _ | (rw [nI_add]; first | rfl | (congr 1; omega))) ?_
                    refine lv_istore (lv' := [(4, .int (nI l9)), (0, .ref (B + 26)), (1, .int t), (2, .int k), (3, .int (nI p)), (5, .int (nI q9))]) hx hb dX5_key_90 hl (by decide) rfl (fun ls hl => ?_)
                    refine lv_iinc (v := nI (q9 + 1)) (lv' := [(5, .int (nI (q9 + 1))), (4, .int (nI l9)), (0, .ref (B + 26)), (1, .int t), (2, .int k), (3, .int (nI p))]) hx hb dX5_key_92 hl (k := 5) rfl (nI_1 _) (by decide) rfl (fun ls hl => ?_)
                    refine lv_goto (tgt := 42) hx hb dX5_key_95 (by decide) ?_
                    exact ih42 (q9 + 1) l9 (by omega) (by first | omega | grind) (by rw [mt_ct_n (P := (fun a => md_T n O a = t ∧ D (4 * a) < D (4 * p))) (fun z => absurd z.2 (Int32.not_lt.mpr c81)), ← hk]) _ _ _ f9 q28 q29 frm hP ls (lv_sub hl [2, 3, 4, 5, 1, 0] rfl)
                  · refine lv_iconst (v := nI 1) hx hb dX5_key_84 (by decide) ?_
                    refine lv_goto (tgt := 89) hx hb dX5_key_85 (by decide) ?_
                    refine lv_iadd hx hb dX5_key_89 ?_
                    refine kl_top (z := nI (l9 + 1)) (by first | exact nI_add _ _ | (rw [nI_add]; first | rfl | (congr 1; omega))) ?_
                    refine lv_istore (lv' := [(4, .int (nI (l9 + 1))), (0, .ref (B + 26)), (1, .int t), (2, .int k), (3, .int (nI p)), (5, .int (nI q9))]) hx hb dX5_key_90 hl (by decide) rfl (fun ls hl => ?_)
                    refine lv_iinc (v := nI (q9 + 1)) (lv' := [(5, .int (nI (q9 + 1))), (4, .int (nI (l9 + 1))), (0, .ref (B + 26)), (1, .int t), (2, .int k), (3, .int (nI p))]) hx hb dX5_key_92 hl (k := 5) rfl (nI_1 _) (by decide) rfl (fun ls hl => ?_)
                    refine lv_goto (tgt := 42) hx hb dX5_key_95 (by decide) ?_
                    exact ih42 (q9 + 1) (l9 + 1) (by omega) (by first | omega | grind) (by rw [mt_ct_y (P := (fun a => md_T n O a = t ∧ D (4 * a) < D (4 * p))) ⟨(md_lt (by omega)).trans c61, Int32.not_le.mp c81⟩, ← hk]) _ _ _ f9 q28 q29 frm hP ls (lv_sub hl [2, 3, 4, 5, 1, 0] rfl)
          exact lp42 (n + 1) 0 0 (Nat.lt_succ_of_le (by omega)) (by first | omega | grind) rfl _ _ _ f9 q28 q29 frm hP ls (lv_sub hl [2, 3, 4, 5, 1, 0] rfl)
    exact lp28 (n + 1) 0 (Nat.lt_succ_of_le (by omega)) (by first | omega | grind) lt_0 _ _ _ f9 q28 q29 frm hP ls (lv_sub hl [1, 2, 3, 0] rfl)

abbrev rm_X5_count : Room := { frames := 1, cells := 0, slots := 0, locals := 21 }
set_option maxHeartbeats 4000000 in
set_option maxRecDepth 100000 in
theorem c_X5_count (l : Launch) (G : kl_G) (B : Nat) (w : kl_M) {nT nL nS nC nW nM n on : Nat} {ec rs hi : Int32} {O : Nat → Int32} (t : Int32) (q26 : w 26 = some (.inr (5, [.int ec, .int rs, .int (nI nT), .ref (B + 27), .int (nI n), .ref (B + 28), .ref (B + 29), .int (nI on), .ref (B + 30), .ref (B + 31), .ref (B + 32), .int (nI nL), .ref (B + 33), .ref (B + 34), .ref (B + 35), .ref (B + 36), .int (nI nS), .ref (B + 37), .ref (B + 38), .int (nI nC), .ref (B + 39), .ref (B + 40), .ref (B + 41), .int (nI nW), .ref (B + 42), .int hi, .ref (B + 43), .int (nI nM), .ref (B + 44), .ref (B + 45), .ref (B + 46)]))) (q28 : w 28 = some (kl_aI G 24 O)) (hnT : nT ≤ 4) (hn : n ≤ 24) : Met l yX5_count wsX5_count rm_X5_count (kl_Pc G B w [.ref (B + 26), .int t]) (kl_Qi G B (fun r w1 => (¬ mt_tab t nT ∧ w1 26 = some (.inr (5, [.int (nI 1), .int rs, .int (nI nT), .ref (B + 27), .int (nI n), .ref (B + 28), .ref (B + 29), .int (nI on), .ref (B + 30), .ref (B + 31), .ref (B + 32), .int (nI nL), .ref (B + 33), .ref (B + 34), .ref (B + 35), .ref (B + 36), .int (nI nS), .ref (B + 37), .ref (B + 38), .int (nI nC), .ref (B + 39), .ref (B + 40), .ref (B + 41), .int (nI nW), .ref (B + 42), .int hi, .ref (B + 43), .int (nI nM), .ref (B + 44), .ref (B + 45), .ref (B + 46)])) ∧ ∀ j : Nat, j ≠ 26 → w1 j = w j) ∨ (mt_tab t nT ∧ r = nI (mt_ct (fun a => md_T n O a = t) 24) ∧ w1 26 = some (.inr (5, [.int (nI 0), .int rs, .int (nI nT), .ref (B + 27), .int (nI n), .ref (B + 28), .ref (B + 29), .int (nI on), .ref (B + 30), .ref (B + 31), .ref (B + 32), .int (nI nL), .ref (B + 33), .ref (B + 34), .ref (B + 35), .ref (B + 36), .int (nI nS), .ref (B + 37), .ref (B + 38), .int (nI nC), .ref (B + 39), .ref (B + 40), .ref (B + 41), .int (nI nW), .ref (B + 42), .int hi, .ref (B + 43), .int (nI nM), .ref (B + 44), .ref (B + 45), .ref (B + 46)])) ∧ ∀ j : Nat, j ≠ 26 → w1 j = w j))) 0 0 (kl_fr B) := by
  refine Met.ofW (cc := cX5_count) (maxL := 4) (ret := (some .int)) (by decide) rfl ?_
  intro pg e s m args below meth cd s₁ Bd hml hv
  obtain ⟨rfl, hP0, hK⟩ := hv
  have hx := Bd.exec
  have hb := Bd.bytes
  have hr := Bd.returns
  have hts := atoms_spec (ws := wsX5_count) Bd.pre
  have hown : s.vm.findClass RX5 = some m.cls := findClass_of_methodNamed Bd.named
  have hlocks := Bd.notSynchronized
  have hinX5 : ∀ w ∈ u_ws RX5 TX5 31, w ∈ wsX5_count := by decide +kernel
  have hP := kl_S.rf hP0
  have hl := lv_entry ([.ref (B + 26), .int t]) (n := 4) (Nat.le_of_ble_eq_true rfl)
  rw [lg_entry_eq]
  generalize (lg_sl ([.ref (B + 26), .int t]) ++ List.replicate (4 - (lg_sl ([.ref (B + 26), .int t])).length) Slot.unset).toArray = ls at hl ⊢
  have hl : lv_has ls 4 [(0, .ref (B + 26)), (1, .int t)] := hl
  have frm : ∀ j : Nat, j ≠ 26 → w j = w j := fun j _ => rfl
  refine lv_aload_n hx hb dX5_count_0 rfl (lv_at hl 0 rfl) ?_
  refine lv_aload_n hx hb dX5_count_1 rfl (lv_at hl 0 rfl) ?_
  refine lv_iload_n hx hb dX5_count_2 rfl (lv_at hl 1 rfl) ?_
  refine kl_cVi (C := RX5) (i := 26) (As := [.int t]) (rest := [.ref (B + 26)]) ⟨hx, hb, hml, hown, hts⟩ (c_X5_isTable l G B _ t q26 (by omega)) (cwV 1 hts gX5_count_X5_isTable rfl rfl rfl (by decide +kernel) ⟨Nat.le_of_ble_eq_true rfl, Nat.le_of_ble_eq_true rfl⟩) hK hP q26 rfl rfl hl.1 rfl (Nat.le_of_ble_eq_true rfl) dX5_count_3 ⟨Nat.le_of_ble_eq_true rfl, Nat.le_of_ble_eq_true rfl⟩ (fun r3 w1 H locs q2 hP => ?_)
  obtain ⟨rfl, hv4⟩ := q2
  refine kl_ifeq (tgt := 13) hx hb hv4 dX5_count_6 (by decide) (fun c6 => ?_) (fun c6 => ?_)
  · refine lv_iconst (v := nI 1) hx hb dX5_count_13 (by decide) ?_
    refine kl_put (C := RX5) (T := TX5) (N := 31) (ci := 5) (v := .int (nI 1)) (ty := .int) hx hb hts hinX5 tyX5 tyX5_ok nmX5 hown hK hP q26 rfl 0 (by decide) (hts (.fieldLink RX5 71 "KinLedgerModel" "code" "I") (by decide +kernel)) (fun _ h9 => h9) rfl (by decide +kernel) rfl rfl (Nat.le_of_ble_eq_true rfl) dX5_count_14 (fun w5 H locs f6 fr7 hzw5 hP => ?_)
    have f6 : w5 26 = some (.inr (5, [.int (nI 1), .int rs, .int (nI nT), .ref (B + 27), .int (nI n), .ref (B + 28), .ref (B + 29), .int (nI on), .ref (B + 30), .ref (B + 31), .ref (B + 32), .int (nI nL), .ref (B + 33), .ref (B + 34), .ref (B + 35), .ref (B + 36), .int (nI nS), .ref (B + 37), .ref (B + 38), .int (nI nC), .ref (B + 39), .ref (B + 40), .ref (B + 41), .int (nI nW), .ref (B + 42), .int hi, .ref (B + 43), .int (nI nM), .ref (B + 44), .ref (B + 45), .ref (B + 46)])) := f6
    have q28 : w5 28 = some (kl_aI G 24 O) := (fr7 _ (by decide)).trans q28
    have frm : ∀ j : Nat, j ≠ 26 → w5 j = w j := fun j k0 => (fr7 j k0).trans (frm j k0)
    refine lv_iconst (v := nI 0) hx hb dX5_count_17 (by decide) ?_
    refine lv_istore_n (lv' := [(2, .int (nI 0)), (0, .ref (B + 26)), (1, .int t)]) hx hb dX5_count_18 rfl hl (by decide) rfl (fun ls hl => ?_)
    refine lv_iconst (v := nI 0) hx hb dX5_count_19 (by decide) ?_
    refine lv_istore_n (lv' := [(3, .int (nI 0)), (2, .int (nI 0)), (0, .ref (B + 26)), (1, .int t)]) hx hb dX5_count_20 rfl hl (by decide) rfl (fun ls hl => ?_)
    have lp21 : ∀ (n21 : Nat) (p : Nat) (k9 : Nat), n - p < n21 → (p ≤ n) → (k9 = mt_ct (fun a => O a = t) p) → ∀ (w1 : kl_M) (H : Heap) (locs : List Loc), w1 26 = some (.inr (5, [.int (nI 1), .int rs, .int (nI nT), .ref (B + 27), .int (nI n), .ref (B + 28), .ref (B + 29), .int (nI on), .ref (B + 30), .ref (B + 31), .ref (B + 32), .int (nI nL), .ref (B + 33), .ref (B + 34), .ref (B + 35), .ref (B + 36), .int (nI nS), .ref (B + 37), .ref (B + 38), .int (nI nC), .ref (B + 39), .ref (B + 40), .ref (B + 41), .int (nI nW), .ref (B + 42), .int hi, .ref (B + 43), .int (nI nM), .ref (B + 44), .ref (B + 45), .ref (B + 46)])) → w1 28 = some (kl_aI G 24 O) → (∀ j : Nat, j ≠ 26 → w1 j = w j) → kl_S G B w1 s.heap H locs → ∀ ls : Array Slot, lv_has ls 4 [(0, .ref (B + 26)), (1, .int t), (2, .int (nI k9)), (3, .int (nI p))] → W pg l e rm_X5_count s m ([.ref (B + 26), .int t] : List Value).toArray below meth cd H locs (0 + 0) (0 + 0) (MQ below (kl_Qi G B (fun r w1 => (¬ mt_tab t nT ∧ w1 26 = some (.inr (5, [.int (nI 1), .int rs, .int (nI nT), .ref (B + 27), .int (nI n), .ref (B + 28), .ref (B + 29), .int (nI on), .ref (B + 30), .ref (B + 31), .ref (B + 32), .int (nI nL), .ref (B + 33), .ref (B + 34), .ref (B + 35), .ref (B + 36), .int (nI nS), .ref (B + 37), .ref (B + 38), .int (nI nC), .ref (B + 39), .ref (B + 40), .ref (B + 41), .int (nI nW), .ref (B + 42), .int hi, .ref (B + 43), .int (nI nM), .ref (B + 44), .ref (B + 45), .ref (B + 46)])) ∧ ∀ j : Nat, j ≠ 26 → w1 j = w j) ∨ (mt_tab t nT ∧ r = nI (mt_ct (fun a => md_T n O a = t) 24) ∧ w1 26 = some (.inr (5, [.int (nI 0), .int rs, .int (nI nT), .ref (B + 27), .int (nI n), .ref (B + 28), .ref (B + 29), .int (nI on), .ref (B + 30), .ref (B + 31), .ref (B + 32), .int (nI nL), .ref (B + 33), .ref (B + 34), .ref (B + 35), .ref (B + 36), .int (nI nS), .ref (B + 37), .ref (B + 38), .int (nI nC), .ref (B + 39), .ref (B + 40), .ref (B + 41), .int (nI nW), .ref (B + 42), .int hi, .ref (B + 43), .int (nI nM), .ref (B + 44), .ref (B + 45), .ref (B + 46)])) ∧ ∀ j : Nat, j ≠ 26 → w1 j = w j))) ([.ref (B + 26), .int t] : List Value).toArray s 0 0 (kl_fr B)) (F0 m 21 ls []) := by
      intro n21
      induction n21 with
      | zero => intro p k9 hm; exact absurd hm (Nat.not_lt_zero _)
      | succ n21 ih21 =>
        intro p k9 hm hp hk w1 H locs f6 q28 frm hP ls hl
        have hk99 : k9 ≤ p := by rw [hk]; exact mt_ct_le _ _
        refine lv_iload_n hx hb dX5_count_21 rfl (lv_at hl 3 rfl) ?_
        refine lv_aload_n hx hb dX5_count_22 rfl (lv_at hl 0 rfl) ?_
        refine kl_get (C := RX5) (T := TX5) (N := 31) (ci := 5) hx hb hts hinX5 hown hK hP f6 rfl 4 (by decide) (hts (.fieldLink RX5 82 "KinLedgerModel" "rows" "I") (by decide +kernel)) (fun _ h9 => h9) rfl dX5_count_23 ?_
        refine kl_ge (tgt := 60) hx hb (by omega) (by omega) dX5_count_26 (by decide) (fun c26 => ?_) (fun c26 => ?_)
        · refine lv_iload_n hx hb dX5_count_60 rfl (lv_at hl 2 rfl) ?_
          exact kl_iret hx hb hr hlocks hP (Or.inl (⟨c6, f6, frm⟩)) dX5_count_61
        · refine lv_aload_n hx hb dX5_count_29 rfl (lv_at hl 0 rfl) ?_
          refine kl_get (C := RX5) (T := TX5) (N := 31) (ci := 5) hx hb hts hinX5 hown hK hP f6 rfl 0 (by decide) (hts (.fieldLink RX5 71 "KinLedgerModel" "code" "I") (by decide +kernel)) (fun _ h9 => h9) rfl dX5_count_30 ?_
          refine kl_z_ne (tgt := 60) hx hb (by omega) dX5_count_33 (by decide) (fun c33 => ?_) (fun c33 => absurd c33 (by omega))
          refine lv_iload_n hx hb dX5_count_60 rfl (lv_at hl 2 rfl) ?_
          exact kl_iret hx hb hr hlocks hP (Or.inl (⟨c6, f6, frm⟩)) dX5_count_61
    exact lp21 (n + 1) 0 0 (Nat.lt_succ_of_le (by omega)) (by first | omega | grind) rfl _ _ _ f6 q28 frm hP ls (lv_sub hl [2, 3, 1, 0] rfl)
  · have hok := c6
    have htn : t ≠ -1 := by obtain ⟨j9, z1, z2⟩ := c6; rw [z2]; exact kl_nm1 (by omega)
    refine lv_iconst (v := nI 0) hx hb dX5_count_9 (by decide) ?_
    refine lv_goto (tgt := 14) hx hb dX5_count_10 (by decide) ?_
    refine kl_put (C := RX5) (T := TX5) (N := 31) (ci := 5) (v := .int (nI 0)) (ty := .int) hx hb hts hinX5 tyX5 tyX5_ok nmX5 hown hK hP q26 rfl 0 (by decide) (hts (.fieldLink RX5 71 "KinLedgerModel" "code" "I") (by decide +kernel)) (fun _ h9 => h9) rfl (by decide +kernel) rfl rfl (Nat.le_of_ble_eq_true rfl) dX5_count_14 (fun w8 H locs f9 fr10 hzw8 hP => ?_)
    have f9 : w8 26 = some (.inr (5, [.int (nI 0), .int rs, .int (nI nT), .ref (B + 27), .int (nI n), .ref (B + 28), .ref (B + 29), .int (nI on), .ref (B + 30), .ref (B + 31), .ref (B + 32), .int (nI nL), .ref (B + 33), .ref (B + 34), .ref (B + 35), .ref (B + 36), .int (nI nS), .ref (B + 37), .ref (B + 38), .int (nI nC), .ref (B + 39), .ref (B + 40), .ref (B + 41), .int (nI nW), .ref (B + 42), .int hi, .ref (B + 43), .int (nI nM), .ref (B + 44), .ref (B + 45), .ref (B + 46)])) := f9
    have q28 : w8 28 = some (kl_aI G 24 O) := (fr10 _ (by decide)).trans q28
    have frm : ∀ j : Nat, j ≠ 26 → w8 j = w j := fun j k0 => (fr10 j k0).trans (frm j k0)
    refine lv_iconst (v := nI 0) hx hb dX5_count_17 (by decide) ?_
    refine lv_istore_n (lv' := [(2, .int (nI 0)), (0, .ref (B + 26)), (1, .int t)]) hx hb dX5_count_18 rfl hl (by decide) rfl (fun ls hl => ?_)
    refine lv_iconst (v := nI 0) hx hb dX5_count_19 (by decide) ?_
    refine lv_istore_n (lv' := [(3, .int (nI 0)), (2, .int (nI 0)), (0, .ref (B + 26)), (1, .int t)]) hx hb dX5_count_20 rfl hl (by decide) rfl (fun ls hl => ?_)
    have lp21 : ∀ (n21 : Nat) (p : Nat) (k9 : Nat), n - p < n21 → (p ≤ n) → (k9 = mt_ct (fun a => O a = t) p) → ∀ (w1 : kl_M) (H : Heap) (locs : List Loc), w1 26 = some (.inr (5, [.int (nI 0), .int rs, .int (nI nT), .ref (B + 27), .int (nI n), .ref (B + 28), .ref (B + 29), .int (nI on), .ref (B + 30), .ref (B + 31), .ref (B + 32), .int (nI nL), .ref (B + 33), .ref (B + 34), .ref (B + 35), .ref (B + 36), .int (nI nS), .ref (B + 37), .ref (B + 38), .int (nI nC), .ref (B + 39), .ref (B + 40), .ref (B + 41), .int (nI nW), .ref (B + 42), .int hi, .ref (B + 43), .int (nI nM), .ref (B + 44), .ref (B + 45), .ref (B + 46)])) → w1 28 = some (kl_aI G 24 O) → (∀ j : Nat, j ≠ 26 → w1 j = w j) → kl_S G B w1 s.heap H locs → ∀ ls : Array Slot, lv_has ls 4 [(0, .ref (B + 26)), (1, .int t), (2, .int (nI k9)), (3, .int (nI p))] → W pg l e rm_X5_count s m ([.ref (B + 26), .int t] : List Value).toArray below meth cd H locs (0 + 0) (0 + 0) (MQ below (kl_Qi G B (fun r w1 => (¬ mt_tab t nT ∧ w1 26 = some (.inr (5, [.int (nI 1), .int rs, .int (nI nT), .ref (B + 27), .int (nI n), .ref (B + 28), .ref (B + 29), .int (nI on), .ref (B + 30), .ref (B + 31), .ref (B + 32), .int (nI nL), .ref (B + 33), .ref (B + 34), .ref (B + 35), .ref (B + 36), .int (nI nS), .ref (B + 37), .ref (B + 38), .int (nI nC), .ref (B + 39), .ref (B + 40), .ref (B + 41), .int (nI nW), .ref (B + 42), .int hi, .ref (B + 43), .int (nI nM), .ref (B + 44), .ref (B + 45), .ref (B + 46)])) ∧ ∀ j : Nat, j ≠ 26 → w1 j = w j) ∨ (mt_tab t nT ∧ r = nI (mt_ct (fun a => md_T n O a = t) 24) ∧ w1 26 = some (.inr (5, [.int (nI 0), .int rs, .int (nI nT), .ref (B + 27), .int (nI n), .ref (B + 28), .ref (B + 29), .int (nI on), .ref (B + 30), .ref (B + 31), .ref (B + 32), .int (nI nL), .ref (B + 33), .ref (B + 34), .ref (B + 35), .ref (B + 36), .int (nI nS), .ref (B + 37), .ref (B + 38), .int (nI nC), .ref (B + 39), .ref (B + 40), .ref (B + 41), .int (nI nW), .ref (B + 42), .int hi, .ref (B + 43), .int (nI nM), .ref (B + 44), .ref (B + 45), .ref (B + 46)])) ∧ ∀ j : Nat, j ≠ 26 → w1 j = w j))) ([.ref (B + 26), .int t] : List Value).toArray s 0 0 (kl_fr B)) (F0 m 21 ls []) := by
      intro n21
      induction n21 with
      | zero => intro p k9 hm; exact absurd hm (Nat.not_lt_zero _)
      | succ n21 ih21 =>
        intro p k9 hm hp hk w1 H locs f9 q28 frm hP ls hl
        have hk99 : k9 ≤ p := by rw [hk]; exact mt_ct_le _ _
        refine lv_iload_n hx hb dX5_count_21 rfl (lv_at hl 3 rfl) ?_
        refine lv_aload_n hx hb dX5_count_22 rfl (lv_at hl 0 rfl) ?_
        refine kl_get (C := RX5) (T := TX5) (N := 31) (ci := 5) hx hb hts hinX5 hown hK hP f9 rfl 4 (by decide) (hts (.fieldLink RX5 82 "KinLedgerModel" "rows" "I") (by decide +kernel)) (fun _ h9 => h9) rfl dX5_count_23 ?_
        refine kl_ge (tgt := 60) hx hb (by omega) (by omega) dX5_count_26 (by decide) (fun c26 => ?_) (fun c26 => ?_)
        · refine lv_iload_n hx hb dX5_count_60 rfl (lv_at hl 2 rfl) ?_
          exact kl_iret hx hb hr hlocks hP (Or.inr (⟨hok, congrArg nI (by rw [hk, show p = n by omega, md_ct_ext (n := n) hn (fun a ha z => htn (by rw [← z, md_ge ha]))]; exact mt_ct_cong (fun a ha => by rw [md_lt ha])), f9, frm⟩)) dX5_count_61
        · refine lv_aload_n hx hb dX5_count_29 rfl (lv_at hl 0 rfl) ?_
          refine kl_get (C := RX5) (T := TX5) (N := 31) (ci := 5) hx hb hts hinX5 hown hK hP f9 rfl 0 (by decide) (hts (.fieldLink RX5 71 "KinLedgerModel" "code" "I") (by decide +kernel)) (fun _ h9 => h9) rfl dX5_count_30 ?_
          refine kl_z_ne (tgt := 60) hx hb (by omega) dX5_count_33 (by decide) (fun c33 => absurd c33 (by omega)) (fun c33 => ?_)
          refine lv_iload_n hx hb dX5_count_36 rfl (lv_at hl 2 rfl) ?_
          refine lv_aload_n hx hb dX5_count_37 rfl (lv_at hl 0 rfl) ?_
          refine kl_get (C := RX5) (T := TX5) (N := 31) (ci := 5) hx hb hts hinX5 hown hK hP f9 rfl 5 (by decide) (hts (.fieldLink RX5 13 "KinLedgerModel" "of" "[I") (by decide +kernel)) (fun _ h9 => h9) rfl dX5_count_38 ?_
          refine lv_iload_n hx hb dX5_count_41 rfl (lv_at hl 3 rfl) ?_
          refine kl_iald hx hb hK hP q28 (by omega) (by omega) dX5_count_42 ?_
          refine lv_iload_n hx hb dX5_count_43 rfl (lv_at hl 1 rfl) ?_
          refine lv_icmp_ne (tgt := 51) hx hb dX5_count_44 (by decide) (fun c44 => ?_) (fun c44 => ?_)
          · refine lv_iconst (v := nI 0) hx hb dX5_count_51 (by decide) ?_
            refine lv_iadd hx hb dX5_count_52 ?_
            refine kl_top (z := nI k9) (by first | exact nI_add _ _ | (rw [nI_add]; first | rfl | (congr 1; omega))) ?_
            refine lv_istore_n (lv' := [(2, .int (nI k9)), (0, .ref (B + 26)), (1, .int t), (3, .int (nI p))]) hx hb dX5_count_53 rfl hl (by decide) rfl (fun ls hl => ?_)
            refine lv_iinc (v := nI (p + 1)) (lv' := [(3, .int (nI (p + 1))), (2, .int (nI k9)), (0, .ref (B + 26)), (1, .int t)]) hx hb dX5_count_54 hl (k := 3) rfl (nI_1 _) (by decide) rfl (fun ls hl => ?_)
            refine lv_goto (tgt := 21) hx hb dX5_count_57 (by decide) ?_
            exact ih21 (p + 1) k9 (by omega) (by first | omega | grind) (by rw [mt_ct_n (P := (fun a => O a = t)) (fun z => c44 z), ← hk]) _ _ _ f9 q28 frm hP ls (lv_sub hl [2, 3, 1, 0] rfl)
          · refine lv_iconst (v := nI 1) hx hb dX5_count_47 (by decide) ?_
            refine lv_goto (tgt := 52) hx hb dX5_count_48 (by decide) ?_
            refine lv_iadd hx hb dX5_count_52 ?_
            refine kl_top (z := nI (k9 + 1)) (by first | exact nI_add _ _ | (rw [nI_add]; first | rfl | (congr 1; omega))) ?_
            refine lv_istore_n (lv' := [(2, .int (nI (k9 + 1))), (0, .ref (B + 26)), (1, .int t), (3, .int (nI p))]) hx hb dX5_count_53 rfl hl (by decide) rfl (fun ls hl => ?_)
            refine lv_iinc (v := nI (p + 1)) (lv' := [(3, .int (nI (p + 1))), (2, .int (nI (k9 + 1))), (0, .ref (B + 26)), (1, .int t)]) hx hb dX5_count_54 hl (k := 3) rfl (nI_1 _) (by decide) rfl (fun ls hl => ?_)
            refine lv_goto (tgt := 21) hx hb dX5_count_57 (by decide) ?_
            exact ih21 (p + 1) (k9 + 1) (by omega) (by first | omega | grind) (by rw [mt_ct_y (P := (fun a => O a = t)) (c44), ← hk]) _ _ _ f9 q28 frm hP ls (lv_sub hl [2, 3, 1, 0] rfl)
    exact lp21 (n + 1) 0 0 (Nat.lt_succ_of_le (by omega)) (by first | omega | grind) rfl _ _ _ f9 q28 frm hP ls (lv_sub hl [2, 3, 1, 0] rfl)

abbrev rm_X5_referring : Room := { frames := 1, cells := 0, slots := 0, locals := 24 }
set_option maxHeartbeats 4000000 in
set_option maxRecDepth 100000 in
theorem c_X5_referring (l : Launch) (G : kl_G) (B : Nat) (w : kl_M) {nT nL nS nC nW nM n on : Nat} {ec rs hi : Int32} {O D : Nat → Int32} {lch : Nat → Int32} {lco : Nat → Nat} {lpa : Nat → Int32} (l9 x : Int32) (q26 : w 26 = some (.inr (5, [.int ec, .int rs, .int (nI nT), .ref (B + 27), .int (nI n), .ref (B + 28), .ref (B + 29), .int (nI on), .ref (B + 30), .ref (B + 31), .ref (B + 32), .int (nI nL), .ref (B + 33), .ref (B + 34), .ref (B + 35), .ref (B + 36), .int (nI nS), .ref (B + 37), .ref (B + 38), .int (nI nC), .ref (B + 39), .ref (B + 40), .ref (B + 41), .int (nI nW), .ref (B + 42), .int hi, .ref (B + 43), .int (nI nM), .ref (B + 44), .ref (B + 45), .ref (B + 46)]))) (q28 : w 28 = some (kl_aI G 24 O)) (q29 : w 29 = some (kl_aI G 96 D)) (q33 : w 33 = some (kl_aI G 7 lch)) (q34 : w 34 = some (kl_aI G 7 ((fun t => nI (lco t))))) (q35 : w 35 = some (kl_aI G 7 lpa)) (hnL : nL ≤ 6) (hn : n ≤ 24) (hrl : ∀ j, j < nL → lch j ≠ -1 ∧ lpa j ≠ -1 ∧ lco j < 4) : Met l yX5_referring wsX5_referring rm_X5_referring (kl_Pc G B w [.ref (B + 26), .int l9, .int x]) (kl_Qi G B (fun r w1 => (¬ mt_tab l9 nL ∧ w1 26 = some (.inr (5, [.int (nI 1), .int rs, .int (nI nT), .ref (B + 27), .int (nI n), .ref (B + 28), .ref (B + 29), .int (nI on), .ref (B + 30), .ref (B + 31), .ref (B + 32), .int (nI nL), .ref (B + 33), .ref (B + 34), .ref (B + 35), .ref (B + 36), .int (nI nS), .ref (B + 37), .ref (B + 38), .int (nI nC), .ref (B + 39), .ref (B + 40), .ref (B + 41), .int (nI nW), .ref (B + 42), .int hi, .ref (B + 43), .int (nI nM), .ref (B + 44), .ref (B + 45), .ref (B + 46)])) ∧ ∀ j : Nat, j ≠ 26 → w1 j = w j) ∨ ((∃ j, j < nL ∧ l9 = nI j ∧ (x = 0 ∨ ¬ mt_has (md_T n O) D (lpa j) x)) ∧ w1 26 = some (.inr (5, [.int (nI 2), .int rs, .int (nI nT), .ref (B + 27), .int (nI n), .ref (B + 28), .ref (B + 29), .int (nI on), .ref (B + 30), .ref (B + 31), .ref (B + 32), .int (nI nL), .ref (B + 33), .ref (B + 34), .ref (B + 35), .ref (B + 36), .int (nI nS), .ref (B + 37), .ref (B + 38), .int (nI nC), .ref (B + 39), .ref (B + 40), .ref (B + 41), .int (nI nW), .ref (B + 42), .int hi, .ref (B + 43), .int (nI nM), .ref (B + 44), .ref (B + 45), .ref (B + 46)])) ∧ ∀ j : Nat, j ≠ 26 → w1 j = w j) ∨ ((∃ j, j < nL ∧ l9 = nI j ∧ x ≠ 0 ∧ mt_has (md_T n O) D (lpa j) x ∧ r = nI (mt_ct (fun a => md_T n O a = lch j ∧ D (4 * a + lco j) = x) 24)) ∧ w1 26 = some (.inr (5, [.int (nI 0), .int rs, .int (nI nT), .ref (B + 27), .int (nI n), .ref (B + 28), .ref (B + 29), .int (nI on), .ref (B + 30), .ref (B + 31), .ref (B + 32), .int (nI nL), .ref (B + 33), .ref (B + 34), .ref (B + 35), .ref (B + 36), .int (nI nS), .ref (B + 37), .ref (B + 38), .int (nI nC), .ref (B + 39), .ref (B + 40), .ref (B + 41), .int (nI nW), .ref (B + 42), .int hi, .ref (B + 43), .int (nI nM), .ref (B + 44), .ref (B + 45), .ref (B + 46)])) ∧ ∀ j : Nat, j ≠ 26 → w1 j = w j))) 0 0 (kl_fr B) := by
  refine Met.ofW (cc := cX5_referring) (maxL := 5) (ret := (some .int)) (by decide) rfl ?_
  intro pg e s m args below meth cd s₁ Bd hml hv
  obtain ⟨rfl, hP0, hK⟩ := hv
  have hx := Bd.exec
  have hb := Bd.bytes
  have hr := Bd.returns
  have hts := atoms_spec (ws := wsX5_referring) Bd.pre
  have hown : s.vm.findClass RX5 = some m.cls := findClass_of_methodNamed Bd.named
  have hlocks := Bd.notSynchronized
  have hinX5 : ∀ w ∈ u_ws RX5 TX5 31, w ∈ wsX5_referring := by decide +kernel
  have hP := kl_S.rf hP0
  have hl := lv_entry ([.ref (B + 26), .int l9, .int x]) (n := 5) (Nat.le_of_ble_eq_true rfl)
  rw [lg_entry_eq]
  generalize (lg_sl ([.ref (B + 26), .int l9, .int x]) ++ List.replicate (5 - (lg_sl ([.ref (B + 26), .int l9, .int x])).length) Slot.unset).toArray = ls at hl ⊢
  have hl : lv_has ls 5 [(0, .ref (B + 26)), (1, .int l9), (2, .int x)] := hl
  have frm : ∀ j : Nat, j ≠ 26 → w j = w j := fun j _ => rfl
  refine lv_aload_n hx hb dX5_referring_0 rfl (lv_at hl 0 rfl) ?_
  refine lv_iload_n hx hb dX5_referring_1 rfl (lv_at hl 1 rfl) ?_
  refine lv_if_lt (tgt := 13) hx hb dX5_referring_2 (by decide) (fun c2 => ?_) (fun c2 => ?_)
  · refine lv_iconst (v := nI 1) hx hb dX5_referring_13 (by decide) ?_
    refine lv_goto (tgt := 40) hx hb dX5_referring_14 (by decide) ?_
    refine kl_put (C := RX5) (T := TX5) (N := 31) (ci := 5) (v := .int (nI 1)) (ty := .int) hx hb hts hinX5 tyX5 tyX5_ok nmX5 hown hK hP q26 rfl 0 (by decide) (hts (.fieldLink RX5 71 "KinLedgerModel" "code" "I") (by decide +kernel)) (fun _ h9 => h9) rfl (by decide +kernel) rfl rfl (Nat.le_of_ble_eq_true rfl) dX5_referring_40 (fun w1 H locs f2 fr3 hzw1 hP => ?_)
    have f2 : w1 26 = some (.inr (5, [.int (nI 1), .int rs, .int (nI nT), .ref (B + 27), .int (nI n), .ref (B + 28), .ref (B + 29), .int (nI on), .ref (B + 30), .ref (B + 31), .ref (B + 32), .int (nI nL), .ref (B + 33), .ref (B + 34), .ref (B + 35), .ref (B + 36), .int (nI nS), .ref (B + 37), .ref (B + 38), .int (nI nC), .ref (B + 39), .ref (B + 40), .ref (B + 41), .int (nI nW), .ref (B + 42), .int hi, .ref (B + 43), .int (nI nM), .ref (B + 44), .ref (B + 45), .ref (B + 46)])) := f2
    have q28 : w1 28 = some (kl_aI G 24 O) := (fr3 _ (by decide)).trans q28
    have q29 : w1 29 = some (kl_aI G 96 D) := (fr3 _ (by decide)).trans q29
    have q33 : w1 33 = some (kl_aI G 7 lch) := (fr3 _ (by decide)).trans q33
    have q34 : w1 34 = some (kl_aI G 7 ((fun t => nI (lco t)))) := (fr3 _ (by decide)).trans q34
    have q35 : w1 35 = some (kl_aI G 7 lpa) := (fr3 _ (by decide)).trans q35
    have frm : ∀ j : Nat, j ≠ 26 → w1 j = w j := fun j k0 => (fr3 j k0).trans (frm j k0)
    refine lv_iconst (v := nI 0) hx hb dX5_referring_43 (by decide) ?_
    refine lv_istore_n (lv' := [(3, .int (nI 0)), (0, .ref (B + 26)), (1, .int l9), (2, .int x)]) hx hb dX5_referring_44 rfl hl (by decide) rfl (fun ls hl => ?_)
    refine lv_iconst (v := nI 0) hx hb dX5_referring_45 (by decide) ?_
    refine lv_istore (lv' := [(4, .int (nI 0)), (3, .int (nI 0)), (0, .ref (B + 26)), (1, .int l9), (2, .int x)]) hx hb dX5_referring_46 hl (by decide) rfl (fun ls hl => ?_)
    have lp48 : ∀ (n48 : Nat) (p : Nat) (k9 : Nat), n - p < n48 → (p ≤ n) → (k9 < 2 ^ 20) → ∀ (w1 : kl_M) (H : Heap) (locs : List Loc), w1 26 = some (.inr (5, [.int (nI 1), .int rs, .int (nI nT), .ref (B + 27), .int (nI n), .ref (B + 28), .ref (B + 29), .int (nI on), .ref (B + 30), .ref (B + 31), .ref (B + 32), .int (nI nL), .ref (B + 33), .ref (B + 34), .ref (B + 35), .ref (B + 36), .int (nI nS), .ref (B + 37), .ref (B + 38), .int (nI nC), .ref (B + 39), .ref (B + 40), .ref (B + 41), .int (nI nW), .ref (B + 42), .int hi, .ref (B + 43), .int (nI nM), .ref (B + 44), .ref (B + 45), .ref (B + 46)])) → (∀ j : Nat, j ≠ 26 → w1 j = w j) → kl_S G B w1 s.heap H locs → ∀ ls : Array Slot, lv_has ls 5 [(0, .ref (B + 26)), (2, .int x), (3, .int (nI k9)), (4, .int (nI p))] → W pg l e rm_X5_referring s m ([.ref (B + 26), .int l9, .int x] : List Value).toArray below meth cd H locs (0) (0) (MQ below (kl_Qi G B (fun r w1 => (¬ mt_tab l9 nL ∧ w1 26 = some (.inr (5, [.int (nI 1), .int rs, .int (nI nT), .ref (B + 27), .int (nI n), .ref (B + 28), .ref (B + 29), .int (nI on), .ref (B + 30), .ref (B + 31), .ref (B + 32), .int (nI nL), .ref (B + 33), .ref (B + 34), .ref (B + 35), .ref (B + 36), .int (nI nS), .ref (B + 37), .ref (B + 38), .int (nI nC), .ref (B + 39), .ref (B + 40), .ref (B + 41), .int (nI nW), .ref (B + 42), .int hi, .ref (B + 43), .int (nI nM), .ref (B + 44), .ref (B + 45), .ref (B + 46)])) ∧ ∀ j : Nat, j ≠ 26 → w1 j = w j) ∨ ((∃ j, j < nL ∧ l9 = nI j ∧ (x = 0 ∨ ¬ mt_has (md_T n O) D (lpa j) x)) ∧ w1 26 = some (.inr (5, [.int (nI 2), .int rs, .int (nI nT), .ref (B + 27), .int (nI n), .ref (B + 28), .ref (B + 29), .int (nI on), .ref (B + 30), .ref (B + 31), .ref (B + 32), .int (nI nL), .ref (B + 33), .ref (B + 34), .ref (B + 35), .ref (B + 36), .int (nI nS), .ref (B + 37), .ref (B + 38), .int (nI nC), .ref (B + 39), .ref (B + 40), .ref (B + 41), .int (nI nW), .ref (B + 42), .int hi, .ref (B + 43), .int (nI nM), .ref (B + 44), .ref (B + 45), .ref (B + 46)])) ∧ ∀ j : Nat, j ≠ 26 → w1 j = w j) ∨ ((∃ j, j < nL ∧ l9 = nI j ∧ x ≠ 0 ∧ mt_has (md_T n O) D (lpa j) x ∧ r = nI (mt_ct (fun a => md_T n O a = lch j ∧ D (4 * a + lco j) = x) 24)) ∧ w1 26 = some (.inr (5, [.int (nI 0), .int rs, .int (nI nT), .ref (B + 27), .int (nI n), .ref (B + 28), .ref (B + 29), .int (nI on), .ref (B + 30), .ref (B + 31), .ref (B + 32), .int (nI nL), .ref (B + 33), .ref (B + 34), .ref (B + 35), .ref (B + 36), .int (nI nS), .ref (B + 37), .ref (B + 38), .int (nI nC), .ref (B + 39), .ref (B + 40), .ref (B + 41), .int (nI nW), .ref (B + 42), .int hi, .ref (B + 43), .int (nI nM), .ref (B + 44), .ref (B + 45), .ref (B + 46)])) ∧ ∀ j : Nat, j ≠ 26 → w1 j = w j))) ([.ref (B + 26), .int l9, .int x] : List Value).toArray s 0 0 (kl_fr B)) (F0 m 48 ls []) := by
      intro n48
      induction n48 with
      | zero => intro p k9 hm; exact absurd hm (Nat.not_lt_zero _)
      | succ n48 ih48 =>
        intro p k9 hm hp hk9 w1 H locs f2 frm hP ls hl
        refine lv_iload hx hb dX5_referring_48 (lv_at hl 3 rfl) ?_
        refine lv_aload_n hx hb dX5_referring_50 rfl (lv_at hl 0 rfl) ?_
        refine kl_get (C := RX5) (T := TX5) (N := 31) (ci := 5) hx hb hts hinX5 hown hK hP f2 rfl 4 (by decide) (hts (.fieldLink RX5 82 "KinLedgerModel" "rows" "I") (by decide +kernel)) (fun _ h9 => h9) rfl dX5_referring_51 ?_
        refine kl_ge (tgt := 114) hx hb (by omega) (by omega) dX5_referring_54 (by decide) (fun c54 => ?_) (fun c54 => ?_)
        · refine lv_iload_n hx hb dX5_referring_114 rfl (lv_at hl 2 rfl) ?_
          exact kl_iret hx hb hr hlocks hP (Or.inl (⟨mt_tab_n0 (by omega) c2, f2, frm⟩)) dX5_referring_115
        · refine lv_aload_n hx hb dX5_referring_57 rfl (lv_at hl 0 rfl) ?_
          refine kl_get (C := RX5) (T := TX5) (N := 31) (ci := 5) hx hb hts hinX5 hown hK hP f2 rfl 0 (by decide) (hts (.fieldLink RX5 71 "KinLedgerModel" "code" "I") (by decide +kernel)) (fun _ h9 => h9) rfl dX5_referring_58 ?_
          refine kl_z_ne (tgt := 114) hx hb (by omega) dX5_referring_61 (by decide) (fun c61 => ?_) (fun c61 => absurd c61 (by omega))
          refine lv_iload_n hx hb dX5_referring_114 rfl (lv_at hl 2 rfl) ?_
          exact kl_iret hx hb hr hlocks hP (Or.inl (⟨mt_tab_n0 (by omega) c2, f2, frm⟩)) dX5_referring_115
    exact lp48 (n + 1) 0 0 (Nat.lt_succ_of_le (by omega)) (by first | omega | grind) (by omega) _ _ _ f2 frm hP ls (lv_sub hl [2, 4, 1, 0] rfl)
  · refine lv_iload_n hx hb dX5_referring_5 rfl (lv_at hl 1 rfl) ?_
    refine lv_aload_n hx hb dX5_referring_6 rfl (lv_at hl 0 rfl) ?_
    refine kl_get (C := RX5) (T := TX5) (N := 31) (ci := 5) hx hb hts hinX5 hown hK hP q26 rfl 11 (by decide) (hts (.fieldLink RX5 106 "KinLedgerModel" "links" "I") (by decide +kernel)) (fun _ h9 => h9) rfl dX5_referring_7 ?_
    refine lv_icmp_lt (tgt := 17) hx hb dX5_referring_10 (by decide) (fun c10 => ?_) (fun c10 => ?_)
    · obtain ⟨j, hj, hlj⟩ := mt_tab_y (t := l9) (n := nL) (by omega) c2 (Int32.not_le.mpr c10)
      obtain ⟨hr1, hr2, hr3⟩ := hrl j hj
      rw [hlj] at hl
      refine lv_iload_n hx hb dX5_referring_17 rfl (lv_at hl 2 rfl) ?_
      refine lv_if_eq (tgt := 35) hx hb dX5_referring_18 (by decide) (fun c18 => ?_) (fun c18 => ?_)
      · refine lv_iconst (v := nI 2) hx hb dX5_referring_35 (by decide) ?_
        refine lv_goto (tgt := 40) hx hb dX5_referring_36 (by decide) ?_
        refine kl_put (C := RX5) (T := TX5) (N := 31) (ci := 5) (v := .int (nI 2)) (ty := .int) hx hb hts hinX5 tyX5 tyX5_ok nmX5 hown hK hP q26 rfl 0 (by decide) (hts (.fieldLink RX5 71 "KinLedgerModel" "code" "I") (by decide +kernel)) (fun _ h9 => h9) rfl (by decide +kernel) rfl rfl (Nat.le_of_ble_eq_true rfl) dX5_referring_40 (fun w4 H locs f5 fr6 hzw4 hP => ?_)
        have f5 : w4 26 = some (.inr (5, [.int (nI 2), .int rs, .int (nI nT), .ref (B + 27), .int (nI n), .ref (B + 28), .ref (B + 29), .int (nI on), .ref (B + 30), .ref (B + 31), .ref (B + 32), .int (nI nL), .ref (B + 33), .ref (B + 34), .ref (B + 35), .ref (B + 36), .int (nI nS), .ref (B + 37), .ref (B + 38), .int (nI nC), .ref (B + 39), .ref (B + 40), .ref (B + 41), .int (nI nW), .ref (B + 42), .int hi, .ref (B + 43), .int (nI nM), .ref (B + 44), .ref (B + 45), .ref (B + 46)])) := f5
        have q28 : w4 28 = some (kl_aI G 24 O) := (fr6 _ (by decide)).trans q28
        have q29 : w4 29 = some (kl_aI G 96 D) := (fr6 _ (by decide)).trans q29
        have q33 : w4 33 = some (kl_aI G 7 lch) := (fr6 _ (by decide)).trans q33
        have q34 : w4 34 = some (kl_aI G 7 ((fun t => nI (lco t)))) := (fr6 _ (by decide)).trans q34
        have q35 : w4 35 = some (kl_aI G 7 lpa) := (fr6 _ (by decide)).trans q35
        have frm : ∀ j : Nat, j ≠ 26 → w4 j = w j := fun j k0 => (fr6 j k0).trans (frm j k0)
        refine lv_iconst (v := nI 0) hx hb dX5_referring_43 (by decide) ?_
        refine lv_istore_n (lv' := [(3, .int (nI 0)), (0, .ref (B + 26)), (1, .int (nI j)), (2, .int x)]) hx hb dX5_referring_44 rfl hl (by decide) rfl (fun ls hl => ?_)
        refine lv_iconst (v := nI 0) hx hb dX5_referring_45 (by decide) ?_
        refine lv_istore (lv' := [(4, .int (nI 0)), (3, .int (nI 0)), (0, .ref (B + 26)), (1, .int (nI j)), (2, .int x)]) hx hb dX5_referring_46 hl (by decide) rfl (fun ls hl => ?_)
        have lp48 : ∀ (n48 : Nat) (p : Nat) (k9 : Nat), n - p < n48 → (p ≤ n) → (k9 < 2 ^ 20) → ∀ (w1 : kl_M) (H : Heap) (locs : List Loc), w1 26 = some (.inr (5, [.int (nI 2), .int rs, .int (nI nT), .ref (B + 27), .int (nI n), .ref (B + 28), .ref (B + 29), .int (nI on), .ref (B + 30), .ref (B + 31), .ref (B + 32), .int (nI nL), .ref (B + 33), .ref (B + 34), .ref (B + 35), .ref (B + 36), .int (nI nS), .ref (B + 37), .ref (B + 38), .int (nI nC), .ref (B + 39), .ref (B + 40), .ref (B + 41), .int (nI nW), .ref (B + 42), .int hi, .ref (B + 43), .int (nI nM), .ref (B + 44), .ref (B + 45), .ref (B + 46)])) → (∀ j : Nat, j ≠ 26 → w1 j = w j) → kl_S G B w1 s.heap H locs → ∀ ls : Array Slot, lv_has ls 5 [(0, .ref (B + 26)), (2, .int x), (3, .int (nI k9)), (4, .int (nI p))] → W pg l e rm_X5_referring s m ([.ref (B + 26), .int l9, .int x] : List Value).toArray below meth cd H locs (0) (0) (MQ below (kl_Qi G B (fun r w1 => (¬ mt_tab l9 nL ∧ w1 26 = some (.inr (5, [.int (nI 1), .int rs, .int (nI nT), .ref (B + 27), .int (nI n), .ref (B + 28), .ref (B + 29), .int (nI on), .ref (B + 30), .ref (B + 31), .ref (B + 32), .int (nI nL), .ref (B + 33), .ref (B + 34), .ref (B + 35), .ref (B + 36), .int (nI nS), .ref (B + 37), .ref (B + 38), .int (nI nC), .ref (B + 39), .ref (B + 40), .ref (B + 41), .int (nI nW), .ref (B + 42), .int hi, .ref (B + 43), .int (nI nM), .ref (B + 44), .ref (B + 45), .ref (B + 46)])) ∧ ∀ j : Nat, j ≠ 26 → w1 j = w j) ∨ ((∃ j, j < nL ∧ l9 = nI j ∧ (x = 0 ∨ ¬ mt_has (md_T n O) D (lpa j) x)) ∧ w1 26 = some (.inr (5, [.int (nI 2), .int rs, .int (nI nT), .ref (B + 27), .int (nI n), .ref (B + 28), .ref (B + 29), .int (nI on), .ref (B + 30), .ref (B + 31), .ref (B + 32), .int (nI nL), .ref (B + 33), .ref (B + 34), .ref (B + 35), .ref (B + 36), .int (nI nS), .ref (B + 37), .ref (B + 38), .int (nI nC), .ref (B + 39), .ref (B + 40), .ref (B + 41), .int (nI nW), .ref (B + 42), .int hi, .ref (B + 43), .int (nI nM), .ref (B + 44), .ref (B + 45), .ref (B + 46)])) ∧ ∀ j : Nat, j ≠ 26 → w1 j = w j) ∨ ((∃ j, j < nL ∧ l9 = nI j ∧ x ≠ 0 ∧ mt_has (md_T n O) D (lpa j) x ∧ r = nI (mt_ct (fun a => md_T n O a = lch j ∧ D (4 * a + lco j) = x) 24)) ∧ w1 26 = some (.inr (5, [.int (nI 0), .int rs, .int (nI nT), .ref (B + 27), .int (nI n), .ref (B + 28), .ref (B + 29), .int (nI on), .ref (B + 30), .ref (B + 31), .ref (B + 32), .int (nI nL), .ref (B + 33), .ref (B + 34), .ref (B + 35), .ref (B + 36), .int (nI nS), .ref (B + 37), .ref (B + 38), .int (nI nC), .ref (B + 39), .ref (B + 40), .ref (B + 41), .int (nI nW), .ref (B + 42), .int hi, .ref (B + 43), .int (nI nM), .ref (B + 44), .ref (B + 45), .ref (B + 46)])) ∧ ∀ j : Nat, j ≠ 26 → w1 j = w j))) ([.ref (B + 26), .int l9, .int x] : List Value).toArray s 0 0 (kl_fr B)) (F0 m 48 ls []) := by
          intro n48
          induction n48 with
          | zero => intro p k9 hm; exact absurd hm (Nat.not_lt_zero _)
          | succ n48 ih48 =>
            intro p k9 hm hp hk9 w1 H locs f5 frm hP ls hl
            refine lv_iload hx hb dX5_referring_48 (lv_at hl 3 rfl) ?_
            refine lv_aload_n hx hb dX5_referring_50 rfl (lv_at hl 0 rfl) ?_
            refine kl_get (C := RX5) (T := TX5) (N := 31) (ci := 5) hx hb hts hinX5 hown hK hP f5 rfl 4 (by decide) (hts (.fieldLink RX5 82 "KinLedgerModel" "rows" "I") (by decide +kernel)) (fun _ h9 => h9) rfl dX5_referring_51 ?_
            refine kl_ge (tgt := 114) hx hb (by omega) (by omega) dX5_referring_54 (by decide) (fun c54 => ?_) (fun c54 => ?_)
            · refine lv_iload_n hx hb dX5_referring_114 rfl (lv_at hl 2 rfl) ?_
              exact kl_iret hx hb hr hlocks hP (Or.inr (Or.inl (⟨⟨j, hj, hlj, Or.inl c18⟩, f5, frm⟩))) dX5_referring_115
            · refine lv_aload_n hx hb dX5_referring_57 rfl (lv_at hl 0 rfl) ?_
              refine kl_get (C := RX5) (T := TX5) (N := 31) (ci := 5) hx hb hts hinX5 hown hK hP f5 rfl 0 (by decide) (hts (.fieldLink RX5 71 "KinLedgerModel" "code" "I") (by decide +kernel)) (fun _ h9 => h9) rfl dX5_referring_58 ?_
              refine kl_z_ne (tgt := 114) hx hb (by omega) dX5_referring_61 (by decide) (fun c61 => ?_) (fun c61 => absurd c61 (by omega))
              refine lv_iload_n hx hb dX5_referring_114 rfl (lv_at hl 2 rfl) ?_
              exact kl_iret hx hb hr hlocks hP (Or.inr (Or.inl (⟨⟨j, hj, hlj, Or.inl c18⟩, f5, frm⟩))) dX5_referring_115
        exact lp48 (n + 1) 0 0 (Nat.lt_succ_of_le (by omega)) (by first | omega | grind) (by omega) _ _ _ f5 frm hP ls (lv_sub hl [2, 4, 1, 0] rfl)
      · refine lv_aload_n hx hb dX5_referring_21 rfl (lv_at hl 0 rfl) ?_
        refine lv_aload_n hx hb dX5_referring_22 rfl (lv_at hl 0 rfl) ?_
        refine kl_get (C := RX5) (T := TX5) (N := 31) (ci := 5) hx hb hts hinX5 hown hK hP q26 rfl 14 (by decide) (hts (.fieldLink RX5 35 "KinLedgerModel" "parent" "[I") (by decide +kernel)) (fun _ h9 => h9) rfl dX5_referring_23 ?_
        refine lv_iload_n hx hb dX5_referring_26 rfl (lv_at hl 1 rfl) ?_
        refine kl_iald hx hb hK hP q35 (by omega) (by omega) dX5_referring_27 ?_
        refine lv_iload_n hx hb dX5_referring_28 rfl (lv_at hl 2 rfl) ?_
        refine kl_cVi (C := RX5) (i := 26) (As := [.int (lpa j), .int x]) (rest := [.ref (B + 26)]) ⟨hx, hb, hml, hown, hts⟩ (c_X5_find l G B _ (lpa j) x q26 q28 q29 (by omega) hr2) (cwV 2 hts gX5_referring_X5_find rfl rfl rfl (by decide +kernel) ⟨Nat.le_of_ble_eq_true rfl, Nat.le_of_ble_eq_true rfl⟩) hK hP q26 rfl rfl hl.1 rfl (Nat.le_of_ble_eq_true rfl) dX5_referring_29 ⟨Nat.le_of_ble_eq_true rfl, Nat.le_of_ble_eq_true rfl⟩ (fun r9 w7 H locs q8 hP => ?_)
        obtain ⟨rfl, hv10⟩ := q8
        rcases hv10 with ⟨rfl, hv10⟩ | ⟨p11, hp11, rfl, hv10⟩
        · refine lv_if_ge (tgt := 39) hx hb dX5_referring_32 (by decide) (fun c32 => absurd c32 (by decide)) (fun c32 => ?_)
          refine lv_iconst (v := nI 2) hx hb dX5_referring_35 (by decide) ?_
          refine lv_goto (tgt := 40) hx hb dX5_referring_36 (by decide) ?_
          refine kl_put (C := RX5) (T := TX5) (N := 31) (ci := 5) (v := .int (nI 2)) (ty := .int) hx hb hts hinX5 tyX5 tyX5_ok nmX5 hown hK hP q26 rfl 0 (by decide) (hts (.fieldLink RX5 71 "KinLedgerModel" "code" "I") (by decide +kernel)) (fun _ h9 => h9) rfl (by decide +kernel) rfl rfl (Nat.le_of_ble_eq_true rfl) dX5_referring_40 (fun w12 H locs f13 fr14 hzw12 hP => ?_)
          have f13 : w12 26 = some (.inr (5, [.int (nI 2), .int rs, .int (nI nT), .ref (B + 27), .int (nI n), .ref (B + 28), .ref (B + 29), .int (nI on), .ref (B + 30), .ref (B + 31), .ref (B + 32), .int (nI nL), .ref (B + 33), .ref (B + 34), .ref (B + 35), .ref (B + 36), .int (nI nS), .ref (B + 37), .ref (B + 38), .int (nI nC), .ref (B + 39), .ref (B + 40), .ref (B + 41), .int (nI nW), .ref (B + 42), .int hi, .ref (B + 43), .int (nI nM), .ref (B + 44), .ref (B + 45), .ref (B + 46)])) := f13
          have q28 : w12 28 = some (kl_aI G 24 O) := (fr14 _ (by decide)).trans q28
          have q29 : w12 29 = some (kl_aI G 96 D) := (fr14 _ (by decide)).trans q29
          have q33 : w12 33 = some (kl_aI G 7 lch) := (fr14 _ (by decide)).trans q33
          have q34 : w12 34 = some (kl_aI G 7 ((fun t => nI (lco t)))) := (fr14 _ (by decide)).trans q34
          have q35 : w12 35 = some (kl_aI G 7 lpa) := (fr14 _ (by decide)).trans q35
          have frm : ∀ j : Nat, j ≠ 26 → w12 j = w j := fun j k0 => (fr14 j k0).trans (frm j k0)
          refine lv_iconst (v := nI 0) hx hb dX5_referring_43 (by decide) ?_
          refine lv_istore_n (lv' := [(3, .int (nI 0)), (0, .ref (B + 26)), (1, .int (nI j)), (2, .int x)]) hx hb dX5_referring_44 rfl hl (by decide) rfl (fun ls hl => ?_)
          refine lv_iconst (v := nI 0) hx hb dX5_referring_45 (by decide) ?_
          refine lv_istore (lv' := [(4, .int (nI 0)), (3, .int (nI 0)), (0, .ref (B + 26)), (1, .int (nI j)), (2, .int x)]) hx hb dX5_referring_46 hl (by decide) rfl (fun ls hl => ?_)
          have lp48 : ∀ (n48 : Nat) (p : Nat) (k9 : Nat), n - p < n48 → (p ≤ n) → (k9 < 2 ^ 20) → ∀ (w1 : kl_M) (H : Heap) (locs : List Loc), w1 26 = some (.inr (5, [.int (nI 2), .int rs, .int (nI nT), .ref (B + 27), .int (nI n), .ref (B + 28), .ref (B + 29), .int (nI on), .ref (B + 30), .ref (B + 31), .ref (B + 32), .int (nI nL), .ref (B + 33), .ref (B + 34), .ref (B + 35), .ref (B + 36), .int (nI nS), .ref (B + 37), .ref (B + 38), .int (nI nC), .ref (B + 39), .ref (B + 40), .ref (B + 41), .int (nI nW), .ref (B + 42), .int hi, .ref (B + 43), .int (nI nM), .ref (B + 44), .ref (B + 45), .ref (B + 46)])) → (∀ j : Nat, j ≠ 26 → w1 j = w j) → kl_S G B w1 s.heap H locs → ∀ ls : Array Slot, lv_has ls 5 [(0, .ref (B + 26)), (2, .int x), (3, .int (nI k9)), (4, .int (nI p))] → W pg l e rm_X5_referring s m ([.ref (B + 26), .int l9, .int x] : List Value).toArray below meth cd H locs (0 + 0) (0 + 0) (MQ below (kl_Qi G B (fun r w1 => (¬ mt_tab l9 nL ∧ w1 26 = some (.inr (5, [.int (nI 1), .int rs, .int (nI nT), .ref (B + 27), .int (nI n), .ref (B + 28), .ref (B + 29), .int (nI on), .ref (B + 30), .ref (B + 31), .ref (B + 32), .int (nI nL), .ref (B + 33), .ref (B + 34), .ref (B + 35), .ref (B + 36), .int (nI nS), .ref (B + 37), .ref (B + 38), .int (nI nC), .ref (B + 39), .ref (B + 40), .ref (B + 41), .int (nI nW), .ref (B + 42), .int hi, .ref (B + 43), .int (nI nM), .ref (B + 44), .ref (B + 45), .ref (B + 46)])) ∧ ∀ j : Nat, j ≠ 26 → w1 j = w j) ∨ ((∃ j, j < nL ∧ l9 = nI j ∧ (x = 0 ∨ ¬ mt_has (md_T n O) D (lpa j) x)) ∧ w1 26 = some (.inr (5, [.int (nI 2), .int rs, .int (nI nT), .ref (B + 27), .int (nI n), .ref (B + 28), .ref (B + 29), .int (nI on), .ref (B + 30), .ref (B + 31), .ref (B + 32), .int (nI nL), .ref (B + 33), .ref (B + 34), .ref (B + 35), .ref (B + 36), .int (nI nS), .ref (B + 37), .ref (B + 38), .int (nI nC), .ref (B + 39), .ref (B + 40), .ref (B + 41), .int (nI nW), .ref (B + 42), .int hi, .ref (B + 43), .int (nI nM), .ref (B + 44), .ref (B + 45), .ref (B + 46)])) ∧ ∀ j : Nat, j ≠ 26 → w1 j = w j) ∨ ((∃ j, j < nL ∧ l9 = nI j ∧ x ≠ 0 ∧ mt_has (md_T n O) D (lpa j) x ∧ r = nI (mt_ct (fun a => md_T n O a = lch j ∧ D (4 * a + lco j) = x) 24)) ∧ w1 26 = some (.inr (5, [.int (nI 0), .int rs, .int (nI nT), .ref (B + 27), .int (nI n), .ref (B + 28), .ref (B + 29), .int (nI on), .ref (B + 30), .ref (B + 31), .ref (B + 32), .int (nI nL), .ref (B + 33), .ref (B + 34), .ref (B + 35), .ref (B + 36), .int (nI nS), .ref (B + 37), .ref (B + 38), .int (nI nC), .ref (B + 39), .ref (B + 40), .ref (B + 41), .int (nI nW), .ref (B + 42), .int hi, .ref (B + 43), .int (nI nM), .ref (B + 44), .ref (B + 45), .ref (B + 46)])) ∧ ∀ j : Nat, j ≠ 26 → w1 j = w j))) ([.ref (B + 26), .int l9, .int x] : List Value).toArray s 0 0 (kl_fr B)) (F0 m 48 ls []) := by
            intro n48
            induction n48 with
            | zero => intro p k9 hm; exact absurd hm (Nat.not_lt_zero _)
            | succ n48 ih48 =>
              intro p k9 hm hp hk9 w1 H locs f13 frm hP ls hl
              refine lv_iload hx hb dX5_referring_48 (lv_at hl 3 rfl) ?_
              refine lv_aload_n hx hb dX5_referring_50 rfl (lv_at hl 0 rfl) ?_
              refine kl_get (C := RX5) (T := TX5) (N := 31) (ci := 5) hx hb hts hinX5 hown hK hP f13 rfl 4 (by decide) (hts (.fieldLink RX5 82 "KinLedgerModel" "rows" "I") (by decide +kernel)) (fun _ h9 => h9) rfl dX5_referring_51 ?_
              refine kl_ge (tgt := 114) hx hb (by omega) (by omega) dX5_referring_54 (by decide) (fun c54 => ?_) (fun c54 => ?_)
              · refine lv_iload_n hx hb dX5_referring_114 rfl (lv_at hl 2 rfl) ?_
                exact kl_iret hx hb hr hlocks hP (Or.inr (Or.inl (⟨⟨j, hj, hlj, Or.inr (mt_has_n hv10)⟩, f13, frm⟩))) dX5_referring_115
              · refine lv_aload_n hx hb dX5_referring_57 rfl (lv_at hl 0 rfl) ?_
                refine kl_get (C := RX5) (T := TX5) (N := 31) (ci := 5) hx hb hts hinX5 hown hK hP f13 rfl 0 (by decide) (hts (.fieldLink RX5 71 "KinLedgerModel" "code" "I") (by decide +kernel)) (fun _ h9 => h9) rfl dX5_referring_58 ?_
                refine kl_z_ne (tgt := 114) hx hb (by omega) dX5_referring_61 (by decide) (fun c61 => ?_) (fun c61 => absurd c61 (by omega))
                refine lv_iload_n hx hb dX5_referring_114 rfl (lv_at hl 2 rfl) ?_
                exact kl_iret hx hb hr hlocks hP (Or.inr (Or.inl (⟨⟨j, hj, hlj, Or.inr (mt_has_n hv10)⟩, f13, frm⟩))) dX5_referring_115
          exact lp48 (n + 1) 0 0 (Nat.lt_succ_of_le (by omega)) (by first | omega | grind) (by omega) _ _ _ f13 frm hP ls (lv_sub hl [2, 4, 1, 0] rfl)
        · refine kl_z_ge (tgt := 39) hx hb (by omega) dX5_referring_32 (by decide) ?_
          refine lv_iconst (v := nI 0) hx hb dX5_referring_39 (by decide) ?_
          refine kl_put (C := RX5) (T := TX5) (N := 31) (ci := 5) (v := .int (nI 0)) (ty := .int) hx hb hts hinX5 tyX5 tyX5_ok nmX5 hown hK hP q26 rfl 0 (by decide) (hts (.fieldLink RX5 71 "KinLedgerModel" "code" "I") (by decide +kernel)) (fun _ h9 => h9) rfl (by decide +kernel) rfl rfl (Nat.le_of_ble_eq_true rfl) dX5_referring_40 (fun w15 H locs f16 fr17 hzw15 hP => ?_)
          have f16 : w15 26 = some (.inr (5, [.int (nI 0), .int rs, .int (nI nT), .ref (B + 27), .int (nI n), .ref (B + 28), .ref (B + 29), .int (nI on), .ref (B + 30), .ref (B + 31), .ref (B + 32), .int (nI nL), .ref (B + 33), .ref (B + 34), .ref (B + 35), .ref (B + 36), .int (nI nS), .ref (B + 37), .ref (B + 38), .int (nI nC), .ref (B + 39), .ref (B + 40), .ref (B + 41), .int (nI nW), .ref (B + 42), .int hi, .ref (B + 43), .int (nI nM), .ref (B + 44), .ref (B + 45), .ref (B + 46)])) := f16
          have q28 : w15 28 = some (kl_aI G 24 O) := (fr17 _ (by decide)).trans q28
          have q29 : w15 29 = some (kl_aI G 96 D) := (fr17 _ (by decide)).trans q29
          have q33 : w15 33 = some (kl_aI G 7 lch) := (fr17 _ (by decide)).trans q33
          have q34 : w15 34 = some (kl_aI G 7 ((fun t => nI (lco t)))) := (fr17 _ (by decide)).trans q34
          have q35 : w15 35 = some (kl_aI G 7 lpa) := (fr17 _ (by decide)).trans q35
          have frm : ∀ j : Nat, j ≠ 26 → w15 j = w j := fun j k0 => (fr17 j k0).trans (frm j k0)
          refine lv_iconst (v := nI 0) hx hb dX5_referring_43 (by decide) ?_
          refine lv_istore_n (lv' := [(3, .int (nI 0)), (0, .ref (B + 26)), (1, .int (nI j)), (2, .int x)]) hx hb dX5_referring_44 rfl hl (by decide) rfl (fun ls hl => ?_)
          refine lv_iconst (v := nI 0) hx hb dX5_referring_45 (by decide) ?_
          refine lv_istore (lv' := [(4, .int (nI 0)), (3, .int (nI 0)), (0, .ref (B + 26)), (1, .int (nI j)), (2, .int x)]) hx hb dX5_referring_46 hl (by decide) rfl (fun ls hl => ?_)
          have lp48 : ∀ (n48 : Nat) (p : Nat) (k9 : Nat), n - p < n48 → (p ≤ n) → (k9 = mt_ct (fun a => O a = lch j ∧ D (4 * a + lco j) = x) p) → ∀ (w1 : kl_M) (H : Heap) (locs : List Loc), w1 26 = some (.inr (5, [.int (nI 0), .int rs, .int (nI nT), .ref (B + 27), .int (nI n), .ref (B + 28), .ref (B + 29), .int (nI on), .ref (B + 30), .ref (B + 31), .ref (B + 32), .int (nI nL), .ref (B + 33), .ref (B + 34), .ref (B + 35), .ref (B + 36), .int (nI nS), .ref (B + 37), .ref (B + 38), .int (nI nC), .ref (B + 39), .ref (B + 40), .ref (B + 41), .int (nI nW), .ref (B + 42), .int hi, .ref (B + 43), .int (nI nM), .ref (B + 44), .ref (B + 45), .ref (B + 46)])) → w1 28 = some (kl_aI G 24 O) → w1 29 = some (kl_aI G 96 D) → w1 33 = some (kl_aI G 7 lch) → w1 34 = some (kl_aI G 7 ((fun t => nI (lco t)))) → w1 35 = some (kl_aI G 7 lpa) → (∀ j : Nat, j ≠ 26 → w1 j = w j) → kl_S G B w1 s.heap H locs → ∀ ls : Array Slot, lv_has ls 5 [(0, .ref (B + 26)), (1, .int (nI j)), (2, .int x), (3, .int (nI k9)), (4, .int (nI p))] → W pg l e rm_X5_referring s m ([.ref (B + 26), .int l9, .int x] : List Value).toArray below meth cd H locs (0 + 0) (0 + 0) (MQ below (kl_Qi G B (fun r w1 => (¬ mt_tab l9 nL ∧ w1 26 = some (.inr (5, [.int (nI 1), .int rs, .int (nI nT), .ref (B + 27), .int (nI n), .ref (B + 28), .ref (B + 29), .int (nI on), .ref (B + 30), .ref (B + 31), .ref (B + 32), .int (nI nL), .ref (B + 33), .ref (B + 34), .ref (B + 35), .ref (B + 36), .int (nI nS), .ref (B + 37), .ref (B + 38), .int (nI nC), .ref (B + 39), .ref (B + 40), .ref (B + 41), .int (nI nW), .ref (B + 42), .int hi, .ref (B + 43), .int (nI nM), .ref (B + 44), .ref (B + 45), .ref (B + 46)])) ∧ ∀ j : Nat, j ≠ 26 → w1 j = w j) ∨ ((∃ j, j < nL ∧ l9 = nI j ∧ (x = 0 ∨ ¬ mt_has (md_T n O) D (lpa j) x)) ∧ w1 26 = some (.inr (5, [.int (nI 2), .int rs, .int (nI nT), .ref (B + 27), .int (nI n), .ref (B + 28), .ref (B + 29), .int (nI on), .ref (B + 30), .ref (B + 31), .ref (B + 32), .int (nI nL), .ref (B + 33), .ref (B + 34), .ref (B + 35), .ref (B + 36), .int (nI nS), .ref (B + 37), .ref (B + 38), .int (nI nC), .ref (B + 39), .ref (B + 40), .ref (B + 41), .int (nI nW), .ref (B + 42), .int hi, .ref (B + 43), .int (nI nM), .ref (B + 44), .ref (B + 45), .ref (B + 46)])) ∧ ∀ j : Nat, j ≠ 26 → w1 j = w j) ∨ ((∃ j, j < nL ∧ l9 = nI j ∧ x ≠ 0 ∧ mt_has (md_T n O) D (lpa j) x ∧ r = nI (mt_ct (fun a => md_T n O a = lch j ∧ D (4 * a + lco j) = x) 24)) ∧ w1 26 = some (.inr (5, [.int (nI 0), .int rs, .int (nI nT), .ref (B + 27), .int (nI n), .ref (B + 28), .ref (B + 29), .int (nI on), .ref (B + 30), .ref (B + 31), .ref (B + 32), .int (nI nL), .ref (B + 33), .ref (B + 34), .ref (B + 35), .ref (B + 36), .int (nI nS), .ref (B + 37), .ref (B + 38), .int (nI nC), .ref (B + 39), .ref (B + 40), .ref (B + 41), .int (nI nW), .ref (B + 42), .int hi, .ref (B + 43), .int (nI nM), .ref (B + 44), .ref (B + 45), .ref (B + 46)])) ∧ ∀ j : Nat, j ≠ 26 → w1 j = w j))) ([.ref (B + 26), .int l9, .int x] : List Value).toArray s 0 0 (kl_fr B)) (F0 m 48 ls []) := by
            intro n48
            induction n48 with
            | zero => intro p k9 hm; exact absurd hm (Nat.not_lt_zero _)
            | succ n48 ih48 =>
              intro p k9 hm hp hk w1 H locs f16 q28 q29 q33 q34 q35 frm hP ls hl
              have hk99 : k9 ≤ p := by rw [hk]; exact mt_ct_le _ _
              refine lv_iload hx hb dX5_referring_48 (lv_at hl 4 rfl) ?_
              refine lv_aload_n hx hb dX5_referring_50 rfl (lv_at hl 0 rfl) ?_
              refine kl_get (C := RX5) (T := TX5) (N := 31) (ci := 5) hx hb hts hinX5 hown hK hP f16 rfl 4 (by decide) (hts (.fieldLink RX5 82 "KinLedgerModel" "rows" "I") (by decide +kernel)) (fun _ h9 => h9) rfl dX5_referring_51 ?_
              refine kl_ge (tgt := 114) hx hb (by omega) (by omega) dX5_referring_54 (by decide) (fun c54 => ?_) (fun c54 => ?_)
              · refine lv_iload_n hx hb dX5_referring_114 rfl (lv_at hl 3 rfl) ?_
                exact kl_iret hx hb hr hlocks hP (Or.inr (Or.inr (⟨⟨j, hj, hlj, c18, ⟨p11, hp11, hv10⟩, congrArg nI (by rw [hk, show p = n by omega, md_ct_ext (n := n) hn (fun a ha z => hr1 (by rw [← z.1, md_ge ha]))]; exact mt_ct_cong (fun a ha => by rw [md_lt ha]))⟩, f16, frm⟩))) dX5_referring_115
              · refine lv_aload_n hx hb dX5_referring_57 rfl (lv_at hl 0 rfl) ?_
                refine kl_get (C := RX5) (T := TX5) (N := 31) (ci := 5) hx hb hts hinX5 hown hK hP f16 rfl 0 (by decide) (hts (.fieldLink RX5 71 "KinLedgerModel" "code" "I") (by decide +kernel)) (fun _ h9 => h9) rfl dX5_referring_58 ?_
                refine kl_z_ne (tgt := 114) hx hb (by omega) dX5_referring_61 (by decide) (fun c61 => absurd c61 (by omega)) (fun c61 => ?_)
                refine lv_iload_n hx hb dX5_referring_64 rfl (lv_at hl 3 rfl) ?_
                refine lv_aload_n hx hb dX5_referring_65 rfl (lv_at hl 0 rfl) ?_
                refine kl_get (C := RX5) (T := TX5) (N := 31) (ci := 5) hx hb hts hinX5 hown hK hP f16 rfl 5 (by decide) (hts (.fieldLink RX5 13 "KinLedgerModel" "of" "[I") (by decide +kernel)) (fun _ h9 => h9) rfl dX5_referring_66 ?_
                refine lv_iload hx hb dX5_referring_69 (lv_at hl 4 rfl) ?_
                refine kl_iald hx hb hK hP q28 (by omega) (by omega) dX5_referring_71 ?_
                refine lv_aload_n hx hb dX5_referring_72 rfl (lv_at hl 0 rfl) ?_
                refine kl_get (C := RX5) (T := TX5) (N := 31) (ci := 5) hx hb hts hinX5 hown hK hP f16 rfl 12 (by decide) (hts (.fieldLink RX5 29 "KinLedgerModel" "child" "[I") (by decide +kernel)) (fun _ h9 => h9) rfl dX5_referring_73 ?_
                refine lv_iload_n hx hb dX5_referring_76 rfl (lv_at hl 1 rfl) ?_
                refine kl_iald hx hb hK hP q33 (by omega) (by omega) dX5_referring_77 ?_
                refine lv_icmp_ne (tgt := 105) hx hb dX5_referring_78 (by decide) (fun c78 => ?_) (fun c78 => ?_)
                · refine lv_iconst (v := nI 0) hx hb dX5_referring_105 (by decide) ?_
                  refine lv_iadd hx hb dX5_referring_106 ?_
                  refine kl_top (z := nI k9) (by first | exact nI_add _ _ | (rw [nI_add]; first | rfl | (congr 1; omega))) ?_
                  refine lv_istore_n (lv' := [(3, .int (nI k9)), (0, .ref (B + 26)), (1, .int (nI j)), (2, .int x), (4, .int (nI p))]) hx hb dX5_referring_107 rfl hl (by decide) rfl (fun ls hl => ?_)
                  refine lv_iinc (v := nI (p + 1)) (lv' := [(4, .int (nI (p + 1))), (3, .int (nI k9)), (0, .ref (B + 26)), (1, .int (nI j)), (2, .int x)]) hx hb dX5_referring_108 hl (k := 4) rfl (nI_1 _) (by decide) rfl (fun ls hl => ?_)
                  refine lv_goto (tgt := 48) hx hb dX5_referring_111 (by decide) ?_
                  exact ih48 (p + 1) k9 (by omega) (by first | omega | grind) (by rw [mt_ct_n (P := (fun a => O a = lch j ∧ D (4 * a + lco j) = x)) (fun z => c78 z.1), ← hk]) _ _ _ f16 q28 q29 q33 q34 q35 frm hP ls (lv_sub hl [2, 3, 4, 1, 0] rfl)
                · refine lv_aload_n hx hb dX5_referring_81 rfl (lv_at hl 0 rfl) ?_
                  refine kl_get (C := RX5) (T := TX5) (N := 31) (ci := 5) hx hb hts hinX5 hown hK hP f16 rfl 6 (by decide) (hts (.fieldLink RX5 16 "KinLedgerModel" "cells" "[I") (by decide +kernel)) (fun _ h9 => h9) rfl dX5_referring_82 ?_
                  refine lv_iconst (v := nI 4) hx hb dX5_referring_85 (by decide) ?_
                  refine lv_iload hx hb dX5_referring_86 (lv_at hl 4 rfl) ?_
                  refine lv_imul hx hb dX5_referring_88 ?_
                  refine kl_top (z := nI (4 * p)) (pk_mul _ _) ?_
                  refine lv_aload_n hx hb dX5_referring_89 rfl (lv_at hl 0 rfl) ?_
                  refine kl_get (C := RX5) (T := TX5) (N := 31) (ci := 5) hx hb hts hinX5 hown hK hP f16 rfl 13 (by decide) (hts (.fieldLink RX5 32 "KinLedgerModel" "linkColumn" "[I") (by decide +kernel)) (fun _ h9 => h9) rfl dX5_referring_90 ?_
                  refine lv_iload_n hx hb dX5_referring_93 rfl (lv_at hl 1 rfl) ?_
                  refine kl_iald hx hb hK hP q34 (by omega) (by omega) dX5_referring_94 ?_
                  refine kl_top (z := nI (lco j)) rfl ?_
                  refine lv_iadd hx hb dX5_referring_95 ?_
                  refine kl_top (z := nI (4 * p + lco j)) (by first | exact nI_add _ _ | (rw [nI_add]; first | rfl | (congr 1; omega))) ?_
                  refine kl_iald hx hb hK hP q29 (by omega) (by omega) dX5_referring_96 ?_
                  refine lv_iload_n hx hb dX5_referring_97 rfl (lv_at hl 2 rfl) ?_
                  refine lv_icmp_ne (tgt := 105) hx hb dX5_referring_98 (by decide) (fun c98 => ?_) (fun c98 => ?_)
                  · refine lv_iconst (v := nI 0) hx hb dX5_referring_105 (by decide) ?_
                    refine lv_iadd hx hb dX5_referring_106 ?_
                    refine kl_top (z := nI k9) (by first | exact nI_add _ _ | (rw [nI_add]; first | rfl | (congr 1; omega))) ?_
                    refine lv_istore_n (lv' := [(3, .int (nI k9)), (0, .ref (B + 26)), (1, .int (nI j)), (2, .int x), (4, .int (nI p))]) hx hb dX5_referring_107 rfl hl (by decide) rfl (fun ls hl => ?_)
                    refine lv_iinc (v := nI (p + 1)) (lv' := [(4, .int (nI (p + 1))), (3, .int (nI k9)), (0, .ref (B + 26)), (1, .int (nI j)), (2, .int x)]) hx hb dX5_referring_108 hl (k := 4) rfl (nI_1 _) (by decide) rfl (fun ls hl => ?_)
                    refine lv_goto (tgt := 48) hx hb dX5_referring_111 (by decide) ?_
                    exact ih48 (p + 1) k9 (by omega) (by first | omega | grind) (by rw [mt_ct_n (P := (fun a => O a = lch j ∧ D (4 * a + lco j) = x)) (fun z => c98 z.2), ← hk]) _ _ _ f16 q28 q29 q33 q34 q35 frm hP ls (lv_sub hl [2, 3, 4, 1, 0] rfl)
                  · refine lv_iconst (v := nI 1) hx hb dX5_referring_101 (by decide) ?_
                    refine lv_goto (tgt := 106) hx hb dX5_referring_102 (by decide) ?_
                    refine lv_iadd hx hb dX5_referring_106 ?_
                    refine kl_top (z := nI (k9 + 1)) (by first | exact nI_add _ _ | (rw [nI_add]; first | rfl | (congr 1; omega))) ?_
                    refine lv_istore_n (lv' := [(3, .int (nI (k9 + 1))), (0, .ref (B + 26)), (1, .int (nI j)), (2, .int x), (4, .int (nI p))]) hx hb dX5_referring_107 rfl hl (by decide) rfl (fun ls hl => ?_)
                    refine lv_iinc (v := nI (p + 1)) (lv' := [(4, .int (nI (p + 1))), (3, .int (nI (k9 + 1))), (0, .ref (B + 26)), (1, .int (nI j)), (2, .int x)]) hx hb dX5_referring_108 hl (k := 4) rfl (nI_1 _) (by decide) rfl (fun ls hl => ?_)
                    refine lv_goto (tgt := 48) hx hb dX5_referring_111 (by decide) ?_
                    exact ih48 (p + 1) (k9 + 1) (by omega) (by first | omega | grind) (by rw [mt_ct_y (P := (fun a => O a = lch j ∧ D (4 * a + lco j) = x)) (⟨c78, c98⟩), ← hk]) _ _ _ f16 q28 q29 q33 q34 q35 frm hP ls (lv_sub hl [2, 3, 4, 1, 0] rfl)
          exact lp48 (n + 1) 0 0 (Nat.lt_succ_of_le (by omega)) (by first | omega | grind) rfl _ _ _ f16 q28 q29 q33 q34 q35 frm hP ls (lv_sub hl [2, 3, 4, 1, 0] rfl)
    · refine lv_iconst (v := nI 1) hx hb dX5_referring_13 (by decide) ?_
      refine lv_goto (tgt := 40) hx hb dX5_referring_14 (by decide) ?_
      refine kl_put (C := RX5) (T := TX5) (N := 31) (ci := 5) (v := .int (nI 1)) (ty := .int) hx hb hts hinX5 tyX5 tyX5_ok nmX5 hown hK hP q26 rfl 0 (by decide) (hts (.fieldLink RX5 71 "KinLedgerModel" "code" "I") (by decide +kernel)) (fun _ h9 => h9) rfl (by decide +kernel) rfl rfl (Nat.le_of_ble_eq_true rfl) dX5_referring_40 (fun w18 H locs f19 fr20 hzw18 hP => ?_)
      have f19 : w18 26 = some (.inr (5, [.int (nI 1), .int rs, .int (nI nT), .ref (B + 27), .int (nI n), .ref (B + 28), .ref (B + 29), .int (nI on), .ref (B + 30), .ref (B + 31), .ref (B + 32), .int (nI nL), .ref (B + 33), .ref (B + 34), .ref (B + 35), .ref (B + 36), .int (nI nS), .ref (B + 37), .ref (B + 38), .int (nI nC), .ref (B + 39), .ref (B + 40), .ref (B + 41), .int (nI nW), .ref (B + 42), .int hi, .ref (B + 43), .int (nI nM), .ref (B + 44), .ref (B + 45), .ref (B + 46)])) := f19
      have q28 : w18 28 = some (kl_aI G 24 O) := (fr20 _ (by decide)).trans q28
      have q29 : w18 29 = some (kl_aI G 96 D) := (fr20 _ (by decide)).trans q29
      have q33 : w18 33 = some (kl_aI G 7 lch) := (fr20 _ (by decide)).trans q33
      have q34 : w18 34 = some (kl_aI G 7 ((fun t => nI (lco t)))) := (fr20 _ (by decide)).trans q34
      have q35 : w18 35 = some (kl_aI G 7 lpa) := (fr20 _ (by decide)).trans q35
      have frm : ∀ j : Nat, j ≠ 26 → w18 j = w j := fun j k0 => (fr20 j k0).trans (frm j k0)
      refine lv_iconst (v := nI 0) hx hb dX5_referring_43 (by decide) ?_
      refine lv_istore_n (lv' := [(3, .int (nI 0)), (0, .ref (B + 26)), (1, .int l9), (2, .int x)]) hx hb dX5_referring_44 rfl hl (by decide) rfl (fun ls hl => ?_)
      refine lv_iconst (v := nI 0) hx hb dX5_referring_45 (by decide) ?_
      refine lv_istore (lv' := [(4, .int (nI 0)), (3, .int (nI 0)), (0, .ref (B + 26)), (1, .int l9), (2, .int x)]) hx hb dX5_referring_46 hl (by decide) rfl (fun ls hl => ?_)
      have lp48 : ∀ (n48 : Nat) (p : Nat) (k9 : Nat), n - p < n48 → (p ≤ n) → (k9 < 2 ^ 20) → ∀ (w1 : kl_M) (H : Heap) (locs : List Loc), w1 26 = some (.inr (5, [.int (nI 1), .int rs, .int (nI nT), .ref (B + 27), .int (nI n), .ref (B + 28), .ref (B + 29), .int (nI on), .ref (B + 30), .ref (B + 31), .ref (B + 32), .int (nI nL), .ref (B + 33), .ref (B + 34), .ref (B + 35), .ref (B + 36), .int (nI nS), .ref (B + 37), .ref (B + 38), .int (nI nC), .ref (B + 39), .ref (B + 40), .ref (B + 41), .int (nI nW), .ref (B + 42), .int hi, .ref (B + 43), .int (nI nM), .ref (B + 44), .ref (B + 45), .ref (B + 46)])) → (∀ j : Nat, j ≠ 26 → w1 j = w j) → kl_S G B w1 s.heap H locs → ∀ ls : Array Slot, lv_has ls 5 [(0, .ref (B + 26)), (2, .int x), (3, .int (nI k9)), (4, .int (nI p))] → W pg l e rm_X5_referring s m ([.ref (B + 26), .int l9, .int x] : List Value).toArray below meth cd H locs (0) (0) (MQ below (kl_Qi G B (fun r w1 => (¬ mt_tab l9 nL ∧ w1 26 = some (.inr (5, [.int (nI 1), .int rs, .int (nI nT), .ref (B + 27), .int (nI n), .ref (B + 28), .ref (B + 29), .int (nI on), .ref (B + 30), .ref (B + 31), .ref (B + 32), .int (nI nL), .ref (B + 33), .ref (B + 34), .ref (B + 35), .ref (B + 36), .int (nI nS), .ref (B + 37), .ref (B + 38), .int (nI nC), .ref (B + 39), .ref (B + 40), .ref (B + 41), .int (nI nW), .ref (B + 42), .int hi, .ref (B + 43), .int (nI nM), .ref (B + 44), .ref (B + 45), .ref (B + 46)])) ∧ ∀ j : Nat, j ≠ 26 → w1 j = w j) ∨ ((∃ j, j < nL ∧ l9 = nI j ∧ (x = 0 ∨ ¬ mt_has (md_T n O) D (lpa j) x)) ∧ w1 26 = some (.inr (5, [.int (nI 2), .int rs, .int (nI nT), .ref (B + 27), .int (nI n), .ref (B + 28), .ref (B + 29), .int (nI on), .ref (B + 30), .ref (B + 31), .ref (B + 32), .int (nI nL), .ref (B + 33), .ref (B + 34), .ref (B + 35), .ref (B + 36), .int (nI nS), .ref (B + 37), .ref (B + 38), .int (nI nC), .ref (B + 39), .ref (B + 40), .ref (B + 41), .int (nI nW), .ref (B + 42), .int hi, .ref (B + 43), .int (nI nM), .ref (B + 44), .ref (B + 45), .ref (B + 46)])) ∧ ∀ j : Nat, j ≠ 26 → w1 j = w j) ∨ ((∃ j, j < nL ∧ l9 = nI j ∧ x ≠ 0 ∧ mt_has (md_T n O) D (lpa j) x ∧ r = nI (mt_ct (fun a => md_T n O a = lch j ∧ D (4 * a + lco j) = x) 24)) ∧ w1 26 = some (.inr (5, [.int (nI 0), .int rs, .int (nI nT), .ref (B + 27), .int (nI n), .ref (B + 28), .ref (B + 29), .int (nI on), .ref (B + 30), .ref (B + 31), .ref (B + 32), .int (nI nL), .ref (B + 33), .ref (B + 34), .ref (B + 35), .ref (B + 36), .int (nI nS), .ref (B + 37), .ref (B + 38), .int (nI nC), .ref (B + 39), .ref (B + 40), .ref (B + 41), .int (nI nW), .ref (B + 42), .int hi, .ref (B + 43), .int (nI nM), .ref (B + 44), .ref (B + 45), .ref (B + 46)])) ∧ ∀ j : Nat, j ≠ 26 → w1 j = w j))) ([.ref (B + 26), .int l9, .int x] : List Value).toArray s 0 0 (kl_fr B)) (F0 m 48 ls []) := by
        intro n48
        induction n48 with
        | zero => intro p k9 hm; exact absurd hm (Nat.not_lt_zero _)
        | succ n48 ih48 =>
          intro p k9 hm hp hk9 w1 H locs f19 frm hP ls hl
          refine lv_iload hx hb dX5_referring_48 (lv_at hl 3 rfl) ?_
          refine lv_aload_n hx hb dX5_referring_50 rfl (lv_at hl 0 rfl) ?_
          refine kl_get (C := RX5) (T := TX5) (N := 31) (ci := 5) hx hb hts hinX5 hown hK hP f19 rfl 4 (by decide) (hts (.fieldLink RX5 82 "KinLedgerModel" "rows" "I") (by decide +kernel)) (fun _ h9 => h9) rfl dX5_referring_51 ?_
          refine kl_ge (tgt := 114) hx hb (by omega) (by omega) dX5_referring_54 (by decide) (fun c54 => ?_) (fun c54 => ?_)
          · refine lv_iload_n hx hb dX5_referring_114 rfl (lv_at hl 2 rfl) ?_
            exact kl_iret hx hb hr hlocks hP (Or.inl (⟨mt_tab_n1 (by omega) (Int32.not_lt.mp c10), f19, frm⟩)) dX5_referring_115
          · refine lv_aload_n hx hb dX5_referring_57 rfl (lv_at hl 0 rfl) ?_
            refine kl_get (C := RX5) (T := TX5) (N := 31) (ci := 5) hx hb hts hinX5 hown hK hP f19 rfl 0 (by decide) (hts (.fieldLink RX5 71 "KinLedgerModel" "code" "I") (by decide +kernel)) (fun _ h9 => h9) rfl dX5_referring_58 ?_
            refine kl_z_ne (tgt := 114) hx hb (by omega) dX5_referring_61 (by decide) (fun c61 => ?_) (fun c61 => absurd c61 (by omega))
            refine lv_iload_n hx hb dX5_referring_114 rfl (lv_at hl 2 rfl) ?_
            exact kl_iret hx hb hr hlocks hP (Or.inl (⟨mt_tab_n1 (by omega) (Int32.not_lt.mp c10), f19, frm⟩)) dX5_referring_115
      exact lp48 (n + 1) 0 0 (Nat.lt_succ_of_le (by omega)) (by first | omega | grind) (by omega) _ _ _ f19 frm hP ls (lv_sub hl [2, 4, 1, 0] rfl)
