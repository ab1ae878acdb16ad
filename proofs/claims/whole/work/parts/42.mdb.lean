abbrev rm_X5_table : Room := { frames := 0, cells := 0, slots := 0, locals := 0 }
set_option maxHeartbeats 4000000 in
set_option maxRecDepth 100000 in
theorem c_X5_table (l : Launch) (G : kl_G) (B : Nat) (w : kl_M) {nT nL nS nC nW nM n on : Nat} {ec rs hi : Int32} {cn : Nat → Nat} (c : Int32) (q26 : w 26 = some (.inr (5, [.int ec, .int rs, .int (nI nT), .ref (B + 27), .int (nI n), .ref (B + 28), .ref (B + 29), .int (nI on), .ref (B + 30), .ref (B + 31), .ref (B + 32), .int (nI nL), .ref (B + 33), .ref (B + 34), .ref (B + 35), .ref (B + 36), .int (nI nS), .ref (B + 37), .ref (B + 38), .int (nI nC), .ref (B + 39), .ref (B + 40), .ref (B + 41), .int (nI nW), .ref (B + 42), .int hi, .ref (B + 43), .int (nI nM), .ref (B + 44), .ref (B + 45), .ref (B + 46)]))) (q27 : w 27 = some (kl_aI G 4 ((fun t => nI (cn t))))) (hn : nT ≤ 4) : Met l yX5_table wsX5_table rm_X5_table (kl_Pc G B w [.ref (B + 26), .int c]) (kl_Qi G B (fun r w1 => (¬ mt_cok c ∧ w1 26 = some (.inr (5, [.int (nI 1), .int rs, .int (nI nT), .ref (B + 27), .int (nI n), .ref (B + 28), .ref (B + 29), .int (nI on), .ref (B + 30), .ref (B + 31), .ref (B + 32), .int (nI nL), .ref (B + 33), .ref (B + 34), .ref (B + 35), .ref (B + 36), .int (nI nS), .ref (B + 37), .ref (B + 38), .int (nI nC), .ref (B + 39), .ref (B + 40), .ref (B + 41), .int (nI nW), .ref (B + 42), .int hi, .ref (B + 43), .int (nI nM), .ref (B + 44), .ref (B + 45), .ref (B + 46)])) ∧ w1 27 = some (kl_aI G 4 ((fun t => nI (cn t)))) ∧ ∀ j : Nat, j ≠ 26 → j ≠ 27 → w1 j = w j) ∨ (mt_cok c ∧ ¬ nT < 4 ∧ w1 26 = some (.inr (5, [.int (nI 2), .int rs, .int (nI nT), .ref (B + 27), .int (nI n), .ref (B + 28), .ref (B + 29), .int (nI on), .ref (B + 30), .ref (B + 31), .ref (B + 32), .int (nI nL), .ref (B + 33), .ref (B + 34), .ref (B + 35), .ref (B + 36), .int (nI nS), .ref (B + 37), .ref (B + 38), .int (nI nC), .ref (B + 39), .ref (B + 40), .ref (B + 41), .int (nI nW), .ref (B + 42), .int hi, .ref (B + 43), .int (nI nM), .ref (B + 44), .ref (B + 45), .ref (B + 46)])) ∧ w1 27 = some (kl_aI G 4 ((fun t => nI (cn t)))) ∧ ∀ j : Nat, j ≠ 26 → j ≠ 27 → w1 j = w j) ∨ (mt_cok c ∧ nT < 4 ∧ r = nI nT ∧ w1 26 = some (.inr (5, [.int (nI 0), .int rs, .int (nI (nT + 1)), .ref (B + 27), .int (nI n), .ref (B + 28), .ref (B + 29), .int (nI on), .ref (B + 30), .ref (B + 31), .ref (B + 32), .int (nI nL), .ref (B + 33), .ref (B + 34), .ref (B + 35), .ref (B + 36), .int (nI nS), .ref (B + 37), .ref (B + 38), .int (nI nC), .ref (B + 39), .ref (B + 40), .ref (B + 41), .int (nI nW), .ref (B + 42), .int hi, .ref (B + 43), .int (nI nM), .ref (B + 44), .ref (B + 45), .ref (B + 46)])) ∧ (∃ k, c = nI k ∧ 2 ≤ k ∧ k ≤ 4 ∧ w1 27 = some (kl_aI G 4 (fun t => nI (kl_nup cn nT k t)))) ∧ ∀ j : Nat, j ≠ 26 → j ≠ 27 → w1 j = w j))) 0 0 (kl_fr B) := by
  refine Met.ofW (cc := cX5_table) (maxL := 2) (ret := (some .int)) (by decide) rfl ?_
  intro pg e s m args below meth cd s₁ Bd hml hv
  obtain ⟨rfl, hP0, hK⟩ := hv
  have hx := Bd.exec
  have hb := Bd.bytes
  have hr := Bd.returns
  have hts := atoms_spec (ws := wsX5_table) Bd.pre
  have hown : s.vm.findClass RX5 = some m.cls := findClass_of_methodNamed Bd.named
  have hlocks := Bd.notSynchronized
  have hinX5 : ∀ w ∈ u_ws RX5 TX5 31, w ∈ wsX5_table := by decide +kernel
  have hP := kl_S.rf hP0
  have hl := lv_entry ([.ref (B + 26), .int c]) (n := 2) (Nat.le_of_ble_eq_true rfl)
  rw [lg_entry_eq]
  generalize (lg_sl ([.ref (B + 26), .int c]) ++ List.replicate (2 - (lg_sl ([.ref (B + 26), .int c])).length) Slot.unset).toArray = ls at hl ⊢
  have hl : lv_has ls 2 [(0, .ref (B + 26)), (1, .int c)] := hl
  have frm : ∀ j : Nat, j ≠ 26 → j ≠ 27 → w j = w j := fun j _ _ => rfl
  refine lv_aload_n hx hb dX5_table_0 rfl (lv_at hl 0 rfl) ?_
  refine lv_iload_n hx hb dX5_table_1 rfl (lv_at hl 1 rfl) ?_
  refine lv_iconst (v := nI 2) hx hb dX5_table_2 (by decide) ?_
  refine lv_icmp_lt (tgt := 11) hx hb dX5_table_3 (by decide) (fun c3 => ?_) (fun c3 => ?_)
  · refine lv_iconst (v := nI 1) hx hb dX5_table_11 (by decide) ?_
    refine lv_goto (tgt := 28) hx hb dX5_table_12 (by decide) ?_
    refine kl_put (C := RX5) (T := TX5) (N := 31) (ci := 5) (v := .int (nI 1)) (ty := .int) hx hb hts hinX5 tyX5 tyX5_ok nmX5 hown hK hP q26 rfl 0 (by decide) (hts (.fieldLink RX5 71 "KinLedgerModel" "code" "I") (by decide +kernel)) (fun _ h9 => h9) rfl (by decide +kernel) rfl rfl (Nat.le_of_ble_eq_true rfl) dX5_table_28 (fun w1 H locs f2 fr3 hzw1 hP => ?_)
    have f2 : w1 26 = some (.inr (5, [.int (nI 1), .int rs, .int (nI nT), .ref (B + 27), .int (nI n), .ref (B + 28), .ref (B + 29), .int (nI on), .ref (B + 30), .ref (B + 31), .ref (B + 32), .int (nI nL), .ref (B + 33), .ref (B + 34), .ref (B + 35), .ref (B + 36), .int (nI nS), .ref (B + 37), .ref (B + 38), .int (nI nC), .ref (B + 39), .ref (B + 40), .ref (B + 41), .int (nI nW), .ref (B + 42), .int hi, .ref (B + 43), .int (nI nM), .ref (B + 44), .ref (B + 45), .ref (B + 46)])) := f2
    have q27 : w1 27 = some (kl_aI G 4 ((fun t => nI (cn t)))) := (fr3 _ (by decide)).trans q27
    have frm : ∀ j : Nat, j ≠ 26 → j ≠ 27 → w1 j = w j := fun j k0 k1 => (fr3 j k0).trans (frm j k0 k1)
    refine lv_aload_n hx hb dX5_table_31 rfl (lv_at hl 0 rfl) ?_
    refine kl_get (C := RX5) (T := TX5) (N := 31) (ci := 5) hx hb hts hinX5 hown hK hP f2 rfl 0 (by decide) (hts (.fieldLink RX5 71 "KinLedgerModel" "code" "I") (by decide +kernel)) (fun _ h9 => h9) rfl dX5_table_32 ?_
    refine kl_z_le (tgt := 40) hx hb (by omega) dX5_table_35 (by decide) (fun c35 => absurd c35 (by omega)) (fun c35 => ?_)
    refine lv_iconst (v := nI 0) hx hb dX5_table_38 (by decide) ?_
    exact kl_iret hx hb hr hlocks hP (Or.inl (⟨fun z => z.1 c3, f2, q27, frm⟩)) dX5_table_39
  · refine lv_iload_n hx hb dX5_table_6 rfl (lv_at hl 1 rfl) ?_
    refine lv_iconst (v := nI 4) hx hb dX5_table_7 (by decide) ?_
    refine lv_icmp_le (tgt := 15) hx hb dX5_table_8 (by decide) (fun c8 => ?_) (fun c8 => ?_)
    · refine lv_aload_n hx hb dX5_table_15 rfl (lv_at hl 0 rfl) ?_
      refine kl_get (C := RX5) (T := TX5) (N := 31) (ci := 5) hx hb hts hinX5 hown hK hP q26 rfl 2 (by decide) (hts (.fieldLink RX5 75 "KinLedgerModel" "tables" "I") (by decide +kernel)) (fun _ h9 => h9) rfl dX5_table_16 ?_
      refine lv_iconst (v := nI 4) hx hb dX5_table_19 (by decide) ?_
      refine kl_ne (tgt := 27) hx hb (by omega) (by omega) dX5_table_20 (by decide) (fun c20 => ?_) (fun c20 => ?_)
      · refine lv_iconst (v := nI 0) hx hb dX5_table_27 (by decide) ?_
        refine kl_put (C := RX5) (T := TX5) (N := 31) (ci := 5) (v := .int (nI 0)) (ty := .int) hx hb hts hinX5 tyX5 tyX5_ok nmX5 hown hK hP q26 rfl 0 (by decide) (hts (.fieldLink RX5 71 "KinLedgerModel" "code" "I") (by decide +kernel)) (fun _ h9 => h9) rfl (by decide +kernel) rfl rfl (Nat.le_of_ble_eq_true rfl) dX5_table_28 (fun w4 H locs f5 fr6 hzw4 hP => ?_)
        have f5 : w4 26 = some (.inr (5, [.int (nI 0), .int rs, .int (nI nT), .ref (B + 27), .int (nI n), .ref (B + 28), .ref (B + 29), .int (nI on), .ref (B + 30), .ref (B + 31), .ref (B + 32), .int (nI nL), .ref (B + 33), .ref (B + 34), .ref (B + 35), .ref (B + 36), .int (nI nS), .ref (B + 37), .ref (B + 38), .int (nI nC), .ref (B + 39), .ref (B + 40), .ref (B + 41), .int (nI nW), .ref (B + 42), .int hi, .ref (B + 43), .int (nI nM), .ref (B + 44), .ref (B + 45), .ref (B + 46)])) := f5
        have q27 : w4 27 = some (kl_aI G 4 ((fun t => nI (cn t)))) := (fr6 _ (by decide)).trans q27
        have frm : ∀ j : Nat, j ≠ 26 → j ≠ 27 → w4 j = w j := fun j k0 k1 => (fr6 j k0).trans (frm j k0 k1)
        refine lv_aload_n hx hb dX5_table_31 rfl (lv_at hl 0 rfl) ?_
        refine kl_get (C := RX5) (T := TX5) (N := 31) (ci := 5) hx hb hts hinX5 hown hK hP f5 rfl 0 (by decide) (hts (.fieldLink RX5 71 "KinLedgerModel" "code" "I") (by decide +kernel)) (fun _ h9 => h9) rfl dX5_table_32 ?_
        refine kl_z_le (tgt := 40) hx hb (by omega) dX5_table_35 (by decide) (fun c35 => ?_) (fun c35 => absurd c35 (by omega))
        have hok : mt_cok c := ⟨c3, Int32.not_lt.mpr c8⟩
        obtain ⟨k, rfl, hk2, hk4⟩ := mt_cok_nat hok
        refine lv_aload_n hx hb dX5_table_40 rfl (lv_at hl 0 rfl) ?_
        refine kl_get (C := RX5) (T := TX5) (N := 31) (ci := 5) hx hb hts hinX5 hown hK hP f5 rfl 3 (by decide) (hts (.fieldLink RX5 7 "KinLedgerModel" "columns" "[I") (by decide +kernel)) (fun _ h9 => h9) rfl dX5_table_41 ?_
        refine lv_aload_n hx hb dX5_table_44 rfl (lv_at hl 0 rfl) ?_
        refine kl_get (C := RX5) (T := TX5) (N := 31) (ci := 5) hx hb hts hinX5 hown hK hP f5 rfl 2 (by decide) (hts (.fieldLink RX5 75 "KinLedgerModel" "tables" "I") (by decide +kernel)) (fun _ h9 => h9) rfl dX5_table_45 ?_
        refine lv_iload_n hx hb dX5_table_48 rfl (lv_at hl 1 rfl) ?_
        refine kl_iast hx hb hK hP q27 (by omega) (by omega) dX5_table_49 (fun w7 H locs f8 fr9 hzw7 hP => ?_)
        rw [kl_nup_upd] at f8
        have f5 : w7 26 = some (.inr (5, [.int (nI 0), .int rs, .int (nI nT), .ref (B + 27), .int (nI n), .ref (B + 28), .ref (B + 29), .int (nI on), .ref (B + 30), .ref (B + 31), .ref (B + 32), .int (nI nL), .ref (B + 33), .ref (B + 34), .ref (B + 35), .ref (B + 36), .int (nI nS), .ref (B + 37), .ref (B + 38), .int (nI nC), .ref (B + 39), .ref (B + 40), .ref (B + 41), .int (nI nW), .ref (B + 42), .int hi, .ref (B + 43), .int (nI nM), .ref (B + 44), .ref (B + 45), .ref (B + 46)])) := (fr9 _ (by decide)).trans f5
        have frm : ∀ j : Nat, j ≠ 26 → j ≠ 27 → w7 j = w j := fun j k0 k1 => (fr9 j k1).trans (frm j k0 k1)
        refine lv_aload_n hx hb dX5_table_50 rfl (lv_at hl 0 rfl) ?_
        refine lv_dup hx hb dX5_table_51 rfl ?_
        refine kl_get (C := RX5) (T := TX5) (N := 31) (ci := 5) hx hb hts hinX5 hown hK hP f5 rfl 2 (by decide) (hts (.fieldLink RX5 75 "KinLedgerModel" "tables" "I") (by decide +kernel)) (fun _ h9 => h9) rfl dX5_table_52 ?_
        refine lv_iconst (v := nI 1) hx hb dX5_table_55 (by decide) ?_
        refine lv_iadd hx hb dX5_table_56 ?_
        refine kl_top (z := nI (nT + 1)) (by first | exact nI_add _ _ | (rw [nI_add]; first | rfl | (congr 1; omega))) ?_
        refine kl_put (C := RX5) (T := TX5) (N := 31) (ci := 5) (v := .int (nI (nT + 1))) (ty := .int) hx hb hts hinX5 tyX5 tyX5_ok nmX5 hown hK hP f5 rfl 2 (by decide) (hts (.fieldLink RX5 75 "KinLedgerModel" "tables" "I") (by decide +kernel)) (fun _ h9 => h9) rfl (by decide +kernel) rfl rfl (Nat.le_of_ble_eq_true rfl) dX5_table_57 (fun w10 H locs f11 fr12 hzw10 hP => ?_)
        have f11 : w10 26 = some (.inr (5, [.int (nI 0), .int rs, .int (nI (nT + 1)), .ref (B + 27), .int (nI n), .ref (B + 28), .ref (B + 29), .int (nI on), .ref (B + 30), .ref (B + 31), .ref (B + 32), .int (nI nL), .ref (B + 33), .ref (B + 34), .ref (B + 35), .ref (B + 36), .int (nI nS), .ref (B + 37), .ref (B + 38), .int (nI nC), .ref (B + 39), .ref (B + 40), .ref (B + 41), .int (nI nW), .ref (B + 42), .int hi, .ref (B + 43), .int (nI nM), .ref (B + 44), .ref (B + 45), .ref (B + 46)])) := f11
        have f8 : w10 27 = some (kl_aI G 4 ((fun t => nI ((kl_nup cn nT k) t)))) := (fr12 _ (by decide)).trans f8
        have frm : ∀ j : Nat, j ≠ 26 → j ≠ 27 → w10 j = w j := fun j k0 k1 => (fr12 j k0).trans (frm j k0 k1)
        refine lv_aload_n hx hb dX5_table_60 rfl (lv_at hl 0 rfl) ?_
        refine kl_get (C := RX5) (T := TX5) (N := 31) (ci := 5) hx hb hts hinX5 hown hK hP f11 rfl 2 (by decide) (hts (.fieldLink RX5 75 "KinLedgerModel" "tables" "I") (by decide +kernel)) (fun _ h9 => h9) rfl dX5_table_61 ?_
        refine lv_iconst (v := nI 1) hx hb dX5_table_64 (by decide) ?_
        refine lv_isub hx hb dX5_table_65 ?_
        refine kl_top (z := nI nT) (by first | exact pk_sub (by omega) | (rw [pk_sub (by omega)]; congr 1; omega)) ?_
        exact kl_iret hx hb hr hlocks hP (Or.inr (Or.inr (⟨hok, by omega, rfl, f11, ⟨k, rfl, hk2, hk4, f8⟩, frm⟩))) dX5_table_66
      · refine lv_iconst (v := nI 2) hx hb dX5_table_23 (by decide) ?_
        refine lv_goto (tgt := 28) hx hb dX5_table_24 (by decide) ?_
        refine kl_put (C := RX5) (T := TX5) (N := 31) (ci := 5) (v := .int (nI 2)) (ty := .int) hx hb hts hinX5 tyX5 tyX5_ok nmX5 hown hK hP q26 rfl 0 (by decide) (hts (.fieldLink RX5 71 "KinLedgerModel" "code" "I") (by decide +kernel)) (fun _ h9 => h9) rfl (by decide +kernel) rfl rfl (Nat.le_of_ble_eq_true rfl) dX5_table_28 (fun w13 H locs f14 fr15 hzw13 hP => ?_)
        have f14 : w13 26 = some (.inr (5, [.int (nI 2), .int rs, .int (nI nT), .ref (B + 27), .int (nI n), .ref (B + 28), .ref (B + 29), .int (nI on), .ref (B + 30), .ref (B + 31), .ref (B + 32), .int (nI nL), .ref (B + 33), .ref (B + 34), .ref (B + 35), .ref (B + 36), .int (nI nS), .ref (B + 37), .ref (B + 38), .int (nI nC), .ref (B + 39), .ref (B + 40), .ref (B + 41), .int (nI nW), .ref (B + 42), .int hi, .ref (B + 43), .int (nI nM), .ref (B + 44), .ref (B + 45), .ref (B + 46)])) := f14
        have q27 : w13 27 = some (kl_aI G 4 ((fun t => nI (cn t)))) := (fr15 _ (by decide)).trans q27
        have frm : ∀ j : Nat, j ≠ 26 → j ≠ 27 → w13 j = w j := fun j k0 k1 => (fr15 j k0).trans (frm j k0 k1)
        refine lv_aload_n hx hb dX5_table_31 rfl (lv_at hl 0 rfl) ?_
        refine kl_get (C := RX5) (T := TX5) (N := 31) (ci := 5) hx hb hts hinX5 hown hK hP f14 rfl 0 (by decide) (hts (.fieldLink RX5 71 "KinLedgerModel" "code" "I") (by decide +kernel)) (fun _ h9 => h9) rfl dX5_table_32 ?_
        refine kl_z_le (tgt := 40) hx hb (by omega) dX5_table_35 (by decide) (fun c35 => absurd c35 (by omega)) (fun c35 => ?_)
        refine lv_iconst (v := nI 0) hx hb dX5_table_38 (by decide) ?_
        exact kl_iret hx hb hr hlocks hP (Or.inr (Or.inl (⟨⟨c3, Int32.not_lt.mpr c8⟩, by omega, f14, q27, frm⟩))) dX5_table_39
    · refine lv_iconst (v := nI 1) hx hb dX5_table_11 (by decide) ?_
      refine lv_goto (tgt := 28) hx hb dX5_table_12 (by decide) ?_
      refine kl_put (C := RX5) (T := TX5) (N := 31) (ci := 5) (v := .int (nI 1)) (ty := .int) hx hb hts hinX5 tyX5 tyX5_ok nmX5 hown hK hP q26 rfl 0 (by decide) (hts (.fieldLink RX5 71 "KinLedgerModel" "code" "I") (by decide +kernel)) (fun _ h9 => h9) rfl (by decide +kernel) rfl rfl (Nat.le_of_ble_eq_true rfl) dX5_table_28 (fun w16 H locs f17 fr18 hzw16 hP => ?_)
      have f17 : w16 26 = some (.inr (5, [.int (nI 1), .int rs, .int (nI nT), .ref (B + 27), .int (nI n), .ref (B + 28), .ref (B + 29), .int (nI on), .ref (B + 30), .ref (B + 31), .ref (B + 32), .int (nI nL), .ref (B + 33), .ref (B + 34), .ref (B + 35), .ref (B + 36), .int (nI nS), .ref (B + 37), .ref (B + 38), .int (nI nC), .ref (B + 39), .ref (B + 40), .ref (B + 41), .int (nI nW), .ref (B + 42), .int hi, .ref (B + 43), .int (nI nM), .ref (B + 44), .ref (B + 45), .ref (B + 46)])) := f17
      have q27 : w16 27 = some (kl_aI G 4 ((fun t => nI (cn t)))) := (fr18 _ (by decide)).trans q27
      have frm : ∀ j : Nat, j ≠ 26 → j ≠ 27 → w16 j = w j := fun j k0 k1 => (fr18 j k0).trans (frm j k0 k1)
      refine lv_aload_n hx hb dX5_table_31 rfl (lv_at hl 0 rfl) ?_
      refine kl_get (C := RX5) (T := TX5) (N := 31) (ci := 5) hx hb hts hinX5 hown hK hP f17 rfl 0 (by decide) (hts (.fieldLink RX5 71 "KinLedgerModel" "code" "I") (by decide +kernel)) (fun _ h9 => h9) rfl dX5_table_32 ?_
      refine kl_z_le (tgt := 40) hx hb (by omega) dX5_table_35 (by decide) (fun c35 => absurd c35 (by omega)) (fun c35 => ?_)
      refine lv_iconst (v := nI 0) hx hb dX5_table_38 (by decide) ?_
      exact kl_iret hx hb hr hlocks hP (Or.inl (⟨fun z => z.2 (Int32.not_le.mp c8), f17, q27, frm⟩)) dX5_table_39

abbrev rm_X5_link : Room := { frames := 2, cells := 0, slots := 0, locals := 47 }
set_option maxHeartbeats 4000000 in
set_option maxRecDepth 100000 in
theorem c_X5_link (l : Launch) (G : kl_G) (B : Nat) (w : kl_M) {nT nL nS nC nW nM n on : Nat} {ec rs hi : Int32} {cn : Nat → Nat} {O D lch : Nat → Int32} {lco : Nat → Nat} {lpa lwy : Nat → Int32} (ch cc pa wy : Int32) (q26 : w 26 = some (.inr (5, [.int ec, .int rs, .int (nI nT), .ref (B + 27), .int (nI n), .ref (B + 28), .ref (B + 29), .int (nI on), .ref (B + 30), .ref (B + 31), .ref (B + 32), .int (nI nL), .ref (B + 33), .ref (B + 34), .ref (B + 35), .ref (B + 36), .int (nI nS), .ref (B + 37), .ref (B + 38), .int (nI nC), .ref (B + 39), .ref (B + 40), .ref (B + 41), .int (nI nW), .ref (B + 42), .int hi, .ref (B + 43), .int (nI nM), .ref (B + 44), .ref (B + 45), .ref (B + 46)]))) (q27 : w 27 = some (kl_aI G 4 ((fun t => nI (cn t))))) (q28 : w 28 = some (kl_aI G 24 O)) (q29 : w 29 = some (kl_aI G 96 D)) (q33 : w 33 = some (kl_aI G 7 lch)) (q34 : w 34 = some (kl_aI G 7 ((fun t => nI (lco t))))) (q35 : w 35 = some (kl_aI G 7 lpa)) (q36 : w 36 = some (kl_aI G 7 lwy)) (hn : nT ≤ 4) (hnL : nL ≤ 6) (hnn : n ≤ 24) (hcn4 : ∀ j, j < nT → cn j ≤ 4) : Met l yX5_link wsX5_link rm_X5_link (kl_Pc G B w [.ref (B + 26), .int ch, .int cc, .int pa, .int wy]) (kl_Qi G B (fun r w1 => (¬ mt_lkok ch cc pa wy nT cn ∧ w1 26 = some (.inr (5, [.int (nI 1), .int rs, .int (nI nT), .ref (B + 27), .int (nI n), .ref (B + 28), .ref (B + 29), .int (nI on), .ref (B + 30), .ref (B + 31), .ref (B + 32), .int (nI nL), .ref (B + 33), .ref (B + 34), .ref (B + 35), .ref (B + 36), .int (nI nS), .ref (B + 37), .ref (B + 38), .int (nI nC), .ref (B + 39), .ref (B + 40), .ref (B + 41), .int (nI nW), .ref (B + 42), .int hi, .ref (B + 43), .int (nI nM), .ref (B + 44), .ref (B + 45), .ref (B + 46)])) ∧ (∃ (lch2 : Nat → Int32) (lco2 : Nat → Nat) (lpa2 lwy2 : Nat → Int32), w1 33 = some (kl_aI G 7 lch2) ∧ w1 34 = some (kl_aI G 7 (fun t => nI (lco2 t))) ∧ w1 35 = some (kl_aI G 7 lpa2) ∧ w1 36 = some (kl_aI G 7 lwy2) ∧ (∀ j, j < nL → lch2 j = lch j ∧ lco2 j = lco j ∧ lpa2 j = lpa j ∧ lwy2 j = lwy j)) ∧ ∀ j : Nat, j ≠ 26 → j ≠ 33 → j ≠ 34 → j ≠ 35 → j ≠ 36 → w1 j = w j) ∨ (mt_lkok ch cc pa wy nT cn ∧ ¬ nL < 6 ∧ w1 26 = some (.inr (5, [.int (nI 2), .int rs, .int (nI nT), .ref (B + 27), .int (nI n), .ref (B + 28), .ref (B + 29), .int (nI on), .ref (B + 30), .ref (B + 31), .ref (B + 32), .int (nI nL), .ref (B + 33), .ref (B + 34), .ref (B + 35), .ref (B + 36), .int (nI nS), .ref (B + 37), .ref (B + 38), .int (nI nC), .ref (B + 39), .ref (B + 40), .ref (B + 41), .int (nI nW), .ref (B + 42), .int hi, .ref (B + 43), .int (nI nM), .ref (B + 44), .ref (B + 45), .ref (B + 46)])) ∧ (∃ (lch2 : Nat → Int32) (lco2 : Nat → Nat) (lpa2 lwy2 : Nat → Int32), w1 33 = some (kl_aI G 7 lch2) ∧ w1 34 = some (kl_aI G 7 (fun t => nI (lco2 t))) ∧ w1 35 = some (kl_aI G 7 lpa2) ∧ w1 36 = some (kl_aI G 7 lwy2) ∧ (∀ j, j < nL → lch2 j = lch j ∧ lco2 j = lco j ∧ lpa2 j = lpa j ∧ lwy2 j = lwy j)) ∧ ∀ j : Nat, j ≠ 26 → j ≠ 33 → j ≠ 34 → j ≠ 35 → j ≠ 36 → w1 j = w j) ∨ (mt_lkok ch cc pa wy nT cn ∧ nL < 6 ∧ ∃ co, cc = nI co ∧ co < 4 ∧ mt_lbrk (md_T n O) D ch co pa ∧ w1 26 = some (.inr (5, [.int (nI 3), .int (nI (400 + nL)), .int (nI nT), .ref (B + 27), .int (nI n), .ref (B + 28), .ref (B + 29), .int (nI on), .ref (B + 30), .ref (B + 31), .ref (B + 32), .int (nI nL), .ref (B + 33), .ref (B + 34), .ref (B + 35), .ref (B + 36), .int (nI nS), .ref (B + 37), .ref (B + 38), .int (nI nC), .ref (B + 39), .ref (B + 40), .ref (B + 41), .int (nI nW), .ref (B + 42), .int hi, .ref (B + 43), .int (nI nM), .ref (B + 44), .ref (B + 45), .ref (B + 46)])) ∧ (∃ (lch2 : Nat → Int32) (lco2 : Nat → Nat) (lpa2 lwy2 : Nat → Int32), w1 33 = some (kl_aI G 7 lch2) ∧ w1 34 = some (kl_aI G 7 (fun t => nI (lco2 t))) ∧ w1 35 = some (kl_aI G 7 lpa2) ∧ w1 36 = some (kl_aI G 7 lwy2) ∧ (∀ j, j < nL → lch2 j = lch j ∧ lco2 j = lco j ∧ lpa2 j = lpa j ∧ lwy2 j = lwy j)) ∧ ∀ j : Nat, j ≠ 26 → j ≠ 33 → j ≠ 34 → j ≠ 35 → j ≠ 36 → w1 j = w j) ∨ (mt_lkok ch cc pa wy nT cn ∧ nL < 6 ∧ r = nI nL ∧ ∃ co, cc = nI co ∧ 0 < co ∧ co < 4 ∧ ¬ mt_lbrk (md_T n O) D ch co pa ∧ w1 26 = some (.inr (5, [.int (nI 0), .int rs, .int (nI nT), .ref (B + 27), .int (nI n), .ref (B + 28), .ref (B + 29), .int (nI on), .ref (B + 30), .ref (B + 31), .ref (B + 32), .int (nI (nL + 1)), .ref (B + 33), .ref (B + 34), .ref (B + 35), .ref (B + 36), .int (nI nS), .ref (B + 37), .ref (B + 38), .int (nI nC), .ref (B + 39), .ref (B + 40), .ref (B + 41), .int (nI nW), .ref (B + 42), .int hi, .ref (B + 43), .int (nI nM), .ref (B + 44), .ref (B + 45), .ref (B + 46)])) ∧ (∃ (lch2 : Nat → Int32) (lco2 : Nat → Nat) (lpa2 lwy2 : Nat → Int32), w1 33 = some (kl_aI G 7 lch2) ∧ w1 34 = some (kl_aI G 7 (fun t => nI (lco2 t))) ∧ w1 35 = some (kl_aI G 7 lpa2) ∧ w1 36 = some (kl_aI G 7 lwy2) ∧ (∀ j, j < nL → lch2 j = lch j ∧ lco2 j = lco j ∧ lpa2 j = lpa j ∧ lwy2 j = lwy j) ∧ lch2 nL = ch ∧ lco2 nL = co ∧ lpa2 nL = pa ∧ lwy2 nL = wy) ∧ ∀ j : Nat, j ≠ 26 → j ≠ 33 → j ≠ 34 → j ≠ 35 → j ≠ 36 → w1 j = w j))) 0 0 (kl_fr B) := by
  refine Met.ofW (cc := cX5_link) (maxL := 5) (ret := (some .int)) (by decide) rfl ?_
  intro pg e s m args below meth cd s₁ Bd hml hv
  obtain ⟨rfl, hP0, hK⟩ := hv
  have hx := Bd.exec
  have hb := Bd.bytes
  have hr := Bd.returns
  have hts := atoms_spec (ws := wsX5_link) Bd.pre
  have hown : s.vm.findClass RX5 = some m.cls := findClass_of_methodNamed Bd.named
  have hlocks := Bd.notSynchronized
  have hinX5 : ∀ w ∈ u_ws RX5 TX5 31, w ∈ wsX5_link := by decide +kernel
  have hP := kl_S.rf hP0
  have hl := lv_entry ([.ref (B + 26), .int ch, .int cc, .int pa, .int wy]) (n := 5) (Nat.le_of_ble_eq_true rfl)
  rw [lg_entry_eq]
  generalize (lg_sl ([.ref (B + 26), .int ch, .int cc, .int pa, .int wy]) ++ List.replicate (5 - (lg_sl ([.ref (B + 26), .int ch, .int cc, .int pa, .int wy])).length) Slot.unset).toArray = ls at hl ⊢
  have hl : lv_has ls 5 [(0, .ref (B + 26)), (1, .int ch), (2, .int cc), (3, .int pa), (4, .int wy)] := hl
  have frm : ∀ j : Nat, j ≠ 26 → j ≠ 33 → j ≠ 34 → j ≠ 35 → j ≠ 36 → w j = w j := fun j _ _ _ _ _ => rfl
  refine lv_aload_n hx hb dX5_link_0 rfl (lv_at hl 0 rfl) ?_
  refine lv_aload_n hx hb dX5_link_1 rfl (lv_at hl 0 rfl) ?_
  refine lv_iload_n hx hb dX5_link_2 rfl (lv_at hl 1 rfl) ?_
  refine lv_iload_n hx hb dX5_link_3 rfl (lv_at hl 2 rfl) ?_
  refine kl_cVi (C := RX5) (i := 26) (As := [.int ch, .int cc]) (rest := [.ref (B + 26)]) ⟨hx, hb, hml, hown, hts⟩ (c_X5_isColumn l G B _ ch cc q26 q27 (by omega) hcn4) (cwV 2 hts gX5_link_X5_isColumn rfl rfl rfl (by decide +kernel) ⟨Nat.le_of_ble_eq_true rfl, Nat.le_of_ble_eq_true rfl⟩) hK hP q26 rfl rfl hl.1 rfl (Nat.le_of_ble_eq_true rfl) dX5_link_4 ⟨Nat.le_of_ble_eq_true rfl, Nat.le_of_ble_eq_true rfl⟩ (fun r3 w1 H locs q2 hP => ?_)
  obtain ⟨rfl, hv4⟩ := q2
  refine kl_ifeq (tgt := 33) hx hb hv4 dX5_link_7 (by decide) (fun c7 => ?_) (fun c7 => ?_)
  · refine lv_iconst (v := nI 1) hx hb dX5_link_33 (by decide) ?_
    refine lv_goto (tgt := 51) hx hb dX5_link_34 (by decide) ?_
    refine kl_put (C := RX5) (T := TX5) (N := 31) (ci := 5) (v := .int (nI 1)) (ty := .int) hx hb hts hinX5 tyX5 tyX5_ok nmX5 hown hK hP q26 rfl 0 (by decide) (hts (.fieldLink RX5 71 "KinLedgerModel" "code" "I") (by decide +kernel)) (fun _ h9 => h9) rfl (by decide +kernel) rfl rfl (Nat.le_of_ble_eq_true rfl) dX5_link_51 (fun w5 H locs f6 fr7 hzw5 hP => ?_)
    have f6 : w5 26 = some (.inr (5, [.int (nI 1), .int rs, .int (nI nT), .ref (B + 27), .int (nI n), .ref (B + 28), .ref (B + 29), .int (nI on), .ref (B + 30), .ref (B + 31), .ref (B + 32), .int (nI nL), .ref (B + 33), .ref (B + 34), .ref (B + 35), .ref (B + 36), .int (nI nS), .ref (B + 37), .ref (B + 38), .int (nI nC), .ref (B + 39), .ref (B + 40), .ref (B + 41), .int (nI nW), .ref (B + 42), .int hi, .ref (B + 43), .int (nI nM), .ref (B + 44), .ref (B + 45), .ref (B + 46)])) := f6
    have q27 : w5 27 = some (kl_aI G 4 ((fun t => nI (cn t)))) := (fr7 _ (by decide)).trans q27
    have q28 : w5 28 = some (kl_aI G 24 O) := (fr7 _ (by decide)).trans q28
    have q29 : w5 29 = some (kl_aI G 96 D) := (fr7 _ (by decide)).trans q29
    have q33 : w5 33 = some (kl_aI G 7 lch) := (fr7 _ (by decide)).trans q33
    have q34 : w5 34 = some (kl_aI G 7 ((fun t => nI (lco t)))) := (fr7 _ (by decide)).trans q34
    have q35 : w5 35 = some (kl_aI G 7 lpa) := (fr7 _ (by decide)).trans q35
    have q36 : w5 36 = some (kl_aI G 7 lwy) := (fr7 _ (by decide)).trans q36
    have frm : ∀ j : Nat, j ≠ 26 → j ≠ 33 → j ≠ 34 → j ≠ 35 → j ≠ 36 → w5 j = w j := fun j k0 k1 k2 k3 k4 => (fr7 j k0).trans (frm j k0 k1 k2 k3 k4)
    refine lv_aload_n hx hb dX5_link_54 rfl (lv_at hl 0 rfl) ?_
    refine kl_get (C := RX5) (T := TX5) (N := 31) (ci := 5) hx hb hts hinX5 hown hK hP f6 rfl 0 (by decide) (hts (.fieldLink RX5 71 "KinLedgerModel" "code" "I") (by decide +kernel)) (fun _ h9 => h9) rfl dX5_link_55 ?_
    refine kl_z_le (tgt := 63) hx hb (by omega) dX5_link_58 (by decide) (fun c58 => absurd c58 (by omega)) (fun c58 => ?_)
    refine lv_iconst (v := nI 0) hx hb dX5_link_61 (by decide) ?_
    exact kl_iret hx hb hr hlocks hP (Or.inl (⟨fun z => c7 z.1.1, f6, ⟨_, _, _, _, q33, q34, q35, q36, fun j hj => ⟨rfl, rfl, rfl, rfl⟩⟩, frm⟩)) dX5_link_62
  · refine lv_aload_n hx hb dX5_link_10 rfl (lv_at hl 0 rfl) ?_
    refine lv_iload_n hx hb dX5_link_11 rfl (lv_at hl 3 rfl) ?_
    refine kl_cVi (C := RX5) (i := 26) (As := [.int pa]) (rest := [.ref (B + 26)]) ⟨hx, hb, hml, hown, hts⟩ (c_X5_isTable l G B _ pa q26 (by omega)) (cwV 1 hts gX5_link_X5_isTable rfl rfl rfl (by decide +kernel) ⟨Nat.le_of_ble_eq_true rfl, Nat.le_of_ble_eq_true rfl⟩) hK hP q26 rfl rfl hl.1 rfl (Nat.le_of_ble_eq_true rfl) dX5_link_12 ⟨Nat.le_of_ble_eq_true rfl, Nat.le_of_ble_eq_true rfl⟩ (fun r10 w8 H locs q9 hP => ?_)
    obtain ⟨rfl, hv11⟩ := q9
    refine kl_ifeq (tgt := 33) hx hb hv11 dX5_link_15 (by decide) (fun c15 => ?_) (fun c15 => ?_)
    · refine lv_iconst (v := nI 1) hx hb dX5_link_33 (by decide) ?_
      refine lv_goto (tgt := 51) hx hb dX5_link_34 (by decide) ?_
      refine kl_put (C := RX5) (T := TX5) (N := 31) (ci := 5) (v := .int (nI 1)) (ty := .int) hx hb hts hinX5 tyX5 tyX5_ok nmX5 hown hK hP q26 rfl 0 (by decide) (hts (.fieldLink RX5 71 "KinLedgerModel" "code" "I") (by decide +kernel)) (fun _ h9 => h9) rfl (by decide +kernel) rfl rfl (Nat.le_of_ble_eq_true rfl) dX5_link_51 (fun w12 H locs f13 fr14 hzw12 hP => ?_)
      have f13 : w12 26 = some (.inr (5, [.int (nI 1), .int rs, .int (nI nT), .ref (B + 27), .int (nI n), .ref (B + 28), .ref (B + 29), .int (nI on), .ref (B + 30), .ref (B + 31), .ref (B + 32), .int (nI nL), .ref (B + 33), .ref (B + 34), .ref (B + 35), .ref (B + 36), .int (nI nS), .ref (B + 37), .ref (B + 38), .int (nI nC), .ref (B + 39), .ref (B + 40), .ref (B + 41), .int (nI nW), .ref (B + 42), .int hi, .ref (B + 43), .int (nI nM), .ref (B + 44), .ref (B + 45), .ref (B + 46)])) := f13
      have q27 : w12 27 = some (kl_aI G 4 ((fun t => nI (cn t)))) := (fr14 _ (by decide)).trans q27
      have q28 : w12 28 = some (kl_aI G 24 O) := (fr14 _ (by decide)).trans q28
      have q29 : w12 29 = some (kl_aI G 96 D) := (fr14 _ (by decide)).trans q29
      have q33 : w12 33 = some (kl_aI G 7 lch) := (fr14 _ (by decide)).trans q33
      have q34 : w12 34 = some (kl_aI G 7 ((fun t => nI (lco t)))) := (fr14 _ (by decide)).trans q34
      have q35 : w12 35 = some (kl_aI G 7 lpa) := (fr14 _ (by decide)).trans q35
      have q36 : w12 36 = some (kl_aI G 7 lwy) := (fr14 _ (by decide)).trans q36
      have frm : ∀ j : Nat, j ≠ 26 → j ≠ 33 → j ≠ 34 → j ≠ 35 → j ≠ 36 → w12 j = w j := fun j k0 k1 k2 k3 k4 => (fr14 j k0).trans (frm j k0 k1 k2 k3 k4)
      refine lv_aload_n hx hb dX5_link_54 rfl (lv_at hl 0 rfl) ?_
      refine kl_get (C := RX5) (T := TX5) (N := 31) (ci := 5) hx hb hts hinX5 hown hK hP f13 rfl 0 (by decide) (hts (.fieldLink RX5 71 "KinLedgerModel" "code" "I") (by decide +kernel)) (fun _ h9 => h9) rfl dX5_link_55 ?_
      refine kl_z_le (tgt := 63) hx hb (by omega) dX5_link_58 (by decide) (fun c58 => absurd c58 (by omega)) (fun c58 => ?_)
      refine lv_iconst (v := nI 0) hx hb dX5_link_61 (by decide) ?_
      exact kl_iret hx hb hr hlocks hP (Or.inl (⟨fun z => c15 z.2.1, f13, ⟨_, _, _, _, q33, q34, q35, q36, fun j hj => ⟨rfl, rfl, rfl, rfl⟩⟩, frm⟩)) dX5_link_62
    · refine lv_iload_n hx hb dX5_link_18 rfl (lv_at hl 2 rfl) ?_
      refine lv_if_eq (tgt := 33) hx hb dX5_link_19 (by decide) (fun c19 => ?_) (fun c19 => ?_)
      · refine lv_iconst (v := nI 1) hx hb dX5_link_33 (by decide) ?_
        refine lv_goto (tgt := 51) hx hb dX5_link_34 (by decide) ?_
        refine kl_put (C := RX5) (T := TX5) (N := 31) (ci := 5) (v := .int (nI 1)) (ty := .int) hx hb hts hinX5 tyX5 tyX5_ok nmX5 hown hK hP q26 rfl 0 (by decide) (hts (.fieldLink RX5 71 "KinLedgerModel" "code" "I") (by decide +kernel)) (fun _ h9 => h9) rfl (by decide +kernel) rfl rfl (Nat.le_of_ble_eq_true rfl) dX5_link_51 (fun w15 H locs f16 fr17 hzw15 hP => ?_)
        have f16 : w15 26 = some (.inr (5, [.int (nI 1), .int rs, .int (nI nT), .ref (B + 27), .int (nI n), .ref (B + 28), .ref (B + 29), .int (nI on), .ref (B + 30), .ref (B + 31), .ref (B + 32), .int (nI nL), .ref (B + 33), .ref (B + 34), .ref (B + 35), .ref (B + 36), .int (nI nS), .ref (B + 37), .ref (B + 38), .int (nI nC), .ref (B + 39), .ref (B + 40), .ref (B + 41), .int (nI nW), .ref (B + 42), .int hi, .ref (B + 43), .int (nI nM), .ref (B + 44), .ref (B + 45), .ref (B + 46)])) := f16
        have q27 : w15 27 = some (kl_aI G 4 ((fun t => nI (cn t)))) := (fr17 _ (by decide)).trans q27
        have q28 : w15 28 = some (kl_aI G 24 O) := (fr17 _ (by decide)).trans q28
        have q29 : w15 29 = some (kl_aI G 96 D) := (fr17 _ (by decide)).trans q29
        have q33 : w15 33 = some (kl_aI G 7 lch) := (fr17 _ (by decide)).trans q33
        have q34 : w15 34 = some (kl_aI G 7 ((fun t => nI (lco t)))) := (fr17 _ (by decide)).trans q34
        have q35 : w15 35 = some (kl_aI G 7 lpa) := (fr17 _ (by decide)).trans q35
        have q36 : w15 36 = some (kl_aI G 7 lwy) := (fr17 _ (by decide)).trans q36
        have frm : ∀ j : Nat, j ≠ 26 → j ≠ 33 → j ≠ 34 → j ≠ 35 → j ≠ 36 → w15 j = w j := fun j k0 k1 k2 k3 k4 => (fr17 j k0).trans (frm j k0 k1 k2 k3 k4)
        refine lv_aload_n hx hb dX5_link_54 rfl (lv_at hl 0 rfl) ?_
        refine kl_get (C := RX5) (T := TX5) (N := 31) (ci := 5) hx hb hts hinX5 hown hK hP f16 rfl 0 (by decide) (hts (.fieldLink RX5 71 "KinLedgerModel" "code" "I") (by decide +kernel)) (fun _ h9 => h9) rfl dX5_link_55 ?_
        refine kl_z_le (tgt := 63) hx hb (by omega) dX5_link_58 (by decide) (fun c58 => absurd c58 (by omega)) (fun c58 => ?_)
        refine lv_iconst (v := nI 0) hx hb dX5_link_61 (by decide) ?_
        exact kl_iret hx hb hr hlocks hP (Or.inl (⟨fun z => z.1.2 c19, f16, ⟨_, _, _, _, q33, q34, q35, q36, fun j hj => ⟨rfl, rfl, rfl, rfl⟩⟩, frm⟩)) dX5_link_62
      · refine lv_iload hx hb dX5_link_22 (lv_at hl 4 rfl) ?_
        refine lv_if_lt (tgt := 33) hx hb dX5_link_24 (by decide) (fun c24 => ?_) (fun c24 => ?_)
        · refine lv_iconst (v := nI 1) hx hb dX5_link_33 (by decide) ?_
          refine lv_goto (tgt := 51) hx hb dX5_link_34 (by decide) ?_
          refine kl_put (C := RX5) (T := TX5) (N := 31) (ci := 5) (v := .int (nI 1)) (ty := .int) hx hb hts hinX5 tyX5 tyX5_ok nmX5 hown hK hP q26 rfl 0 (by decide) (hts (.fieldLink RX5 71 "KinLedgerModel" "code" "I") (by decide +kernel)) (fun _ h9 => h9) rfl (by decide +kernel) rfl rfl (Nat.le_of_ble_eq_true rfl) dX5_link_51 (fun w18 H locs f19 fr20 hzw18 hP => ?_)
          have f19 : w18 26 = some (.inr (5, [.int (nI 1), .int rs, .int (nI nT), .ref (B + 27), .int (nI n), .ref (B + 28), .ref (B + 29), .int (nI on), .ref (B + 30), .ref (B + 31), .ref (B + 32), .int (nI nL), .ref (B + 33), .ref (B + 34), .ref (B + 35), .ref (B + 36), .int (nI nS), .ref (B + 37), .ref (B + 38), .int (nI nC), .ref (B + 39), .ref (B + 40), .ref (B + 41), .int (nI nW), .ref (B + 42), .int hi, .ref (B + 43), .int (nI nM), .ref (B + 44), .ref (B + 45), .ref (B + 46)])) := f19
          have q27 : w18 27 = some (kl_aI G 4 ((fun t => nI (cn t)))) := (fr20 _ (by decide)).trans q27
          have q28 : w18 28 = some (kl_aI G 24 O) := (fr20 _ (by decide)).trans q28
          have q29 : w18 29 = some (kl_aI G 96 D) := (fr20 _ (by decide)).trans q29
          have q33 : w18 33 = some (kl_aI G 7 lch) := (fr20 _ (by decide)).trans q33
          have q34 : w18 34 = some (kl_aI G 7 ((fun t => nI (lco t)))) := (fr20 _ (by decide)).trans q34
          have q35 : w18 35 = some (kl_aI G 7 lpa) := (fr20 _ (by decide)).trans q35
          have q36 : w18 36 = some (kl_aI G 7 lwy) := (fr20 _ (by decide)).trans q36
          have frm : ∀ j : Nat, j ≠ 26 → j ≠ 33 → j ≠ 34 → j ≠ 35 → j ≠ 36 → w18 j = w j := fun j k0 k1 k2 k3 k4 => (fr20 j k0).trans (frm j k0 k1 k2 k3 k4)
          refine lv_aload_n hx hb dX5_link_54 rfl (lv_at hl 0 rfl) ?_
          refine kl_get (C := RX5) (T := TX5) (N := 31) (ci := 5) hx hb hts hinX5 hown hK hP f19 rfl 0 (by decide) (hts (.fieldLink RX5 71 "KinLedgerModel" "code" "I") (by decide +kernel)) (fun _ h9 => h9) rfl dX5_link_55 ?_
          refine kl_z_le (tgt := 63) hx hb (by omega) dX5_link_58 (by decide) (fun c58 => absurd c58 (by omega)) (fun c58 => ?_)
          refine lv_iconst (v := nI 0) hx hb dX5_link_61 (by decide) ?_
          exact kl_iret hx hb hr hlocks hP (Or.inl (⟨fun z => md_way_n (Or.inl c24) z.2.2, f19, ⟨_, _, _, _, q33, q34, q35, q36, fun j hj => ⟨rfl, rfl, rfl, rfl⟩⟩, frm⟩)) dX5_link_62
        · refine lv_iload hx hb dX5_link_27 (lv_at hl 4 rfl) ?_
          refine lv_iconst (v := nI 2) hx hb dX5_link_29 (by decide) ?_
          refine lv_icmp_le (tgt := 37) hx hb dX5_link_30 (by decide) (fun c30 => ?_) (fun c30 => ?_)
          · have hok : mt_lkok ch cc pa wy nT cn := ⟨⟨c7, c19⟩, c15, md_way c24 c30⟩
            refine lv_aload_n hx hb dX5_link_37 rfl (lv_at hl 0 rfl) ?_
            refine kl_get (C := RX5) (T := TX5) (N := 31) (ci := 5) hx hb hts hinX5 hown hK hP q26 rfl 11 (by decide) (hts (.fieldLink RX5 106 "KinLedgerModel" "links" "I") (by decide +kernel)) (fun _ h9 => h9) rfl dX5_link_38 ?_
            refine lv_bipush (v := nI 6) hx hb dX5_link_41 (by decide) ?_
            refine kl_ne (tgt := 50) hx hb (by omega) (by omega) dX5_link_43 (by decide) (fun c43 => ?_) (fun c43 => ?_)
            · refine lv_iconst (v := nI 0) hx hb dX5_link_50 (by decide) ?_
              refine kl_put (C := RX5) (T := TX5) (N := 31) (ci := 5) (v := .int (nI 0)) (ty := .int) hx hb hts hinX5 tyX5 tyX5_ok nmX5 hown hK hP q26 rfl 0 (by decide) (hts (.fieldLink RX5 71 "KinLedgerModel" "code" "I") (by decide +kernel)) (fun _ h9 => h9) rfl (by decide +kernel) rfl rfl (Nat.le_of_ble_eq_true rfl) dX5_link_51 (fun w21 H locs f22 fr23 hzw21 hP => ?_)
              have f22 : w21 26 = some (.inr (5, [.int (nI 0), .int rs, .int (nI nT), .ref (B + 27), .int (nI n), .ref (B + 28), .ref (B + 29), .int (nI on), .ref (B + 30), .ref (B + 31), .ref (B + 32), .int (nI nL), .ref (B + 33), .ref (B + 34), .ref (B + 35), .ref (B + 36), .int (nI nS), .ref (B + 37), .ref (B + 38), .int (nI nC), .ref (B + 39), .ref (B + 40), .ref (B + 41), .int (nI nW), .ref (B + 42), .int hi, .ref (B + 43), .int (nI nM), .ref (B + 44), .ref (B + 45), .ref (B + 46)])) := f22
              have q27 : w21 27 = some (kl_aI G 4 ((fun t => nI (cn t)))) := (fr23 _ (by decide)).trans q27
              have q28 : w21 28 = some (kl_aI G 24 O) := (fr23 _ (by decide)).trans q28
              have q29 : w21 29 = some (kl_aI G 96 D) := (fr23 _ (by decide)).trans q29
              have q33 : w21 33 = some (kl_aI G 7 lch) := (fr23 _ (by decide)).trans q33
              have q34 : w21 34 = some (kl_aI G 7 ((fun t => nI (lco t)))) := (fr23 _ (by decide)).trans q34
              have q35 : w21 35 = some (kl_aI G 7 lpa) := (fr23 _ (by decide)).trans q35
              have q36 : w21 36 = some (kl_aI G 7 lwy) := (fr23 _ (by decide)).trans q36
              have frm : ∀ j : Nat, j ≠ 26 → j ≠ 33 → j ≠ 34 → j ≠ 35 → j ≠ 36 → w21 j = w j := fun j k0 k1 k2 k3 k4 => (fr23 j k0).trans (frm j k0 k1 k2 k3 k4)
              refine lv_aload_n hx hb dX5_link_54 rfl (lv_at hl 0 rfl) ?_
              refine kl_get (C := RX5) (T := TX5) (N := 31) (ci := 5) hx hb hts hinX5 hown hK hP f22 rfl 0 (by decide) (hts (.fieldLink RX5 71 "KinLedgerModel" "code" "I") (by decide +kernel)) (fun _ h9 => h9) rfl dX5_link_55 ?_
              refine kl_z_le (tgt := 63) hx hb (by omega) dX5_link_58 (by decide) (fun c58 => ?_) (fun c58 => absurd c58 (by omega))
              obtain ⟨jj, co, hjj, rfl, hco4, rfl⟩ := c7
              have hco5 := hcn4 jj hjj
              have hco0 : 0 < co := Nat.pos_of_ne_zero (fun z => c19 (by rw [z]; rfl))
              have hpa9 : pa ≠ -1 := by obtain ⟨j, z1, z2⟩ := c15; rw [z2]; exact kl_nm1 (by omega)
              refine lv_aload_n hx hb dX5_link_63 rfl (lv_at hl 0 rfl) ?_
              refine kl_get (C := RX5) (T := TX5) (N := 31) (ci := 5) hx hb hts hinX5 hown hK hP f22 rfl 12 (by decide) (hts (.fieldLink RX5 29 "KinLedgerModel" "child" "[I") (by decide +kernel)) (fun _ h9 => h9) rfl dX5_link_64 ?_
              refine lv_aload_n hx hb dX5_link_67 rfl (lv_at hl 0 rfl) ?_
              refine kl_get (C := RX5) (T := TX5) (N := 31) (ci := 5) hx hb hts hinX5 hown hK hP f22 rfl 11 (by decide) (hts (.fieldLink RX5 106 "KinLedgerModel" "links" "I") (by decide +kernel)) (fun _ h9 => h9) rfl dX5_link_68 ?_
              refine lv_iload_n hx hb dX5_link_71 rfl (lv_at hl 1 rfl) ?_
              refine kl_iast hx hb hK hP q33 (by omega) (by omega) dX5_link_72 (fun w24 H locs f25 fr26 hzw24 hP => ?_)
              have f22 : w24 26 = some (.inr (5, [.int (nI 0), .int rs, .int (nI nT), .ref (B + 27), .int (nI n), .ref (B + 28), .ref (B + 29), .int (nI on), .ref (B + 30), .ref (B + 31), .ref (B + 32), .int (nI nL), .ref (B + 33), .ref (B + 34), .ref (B + 35), .ref (B + 36), .int (nI nS), .ref (B + 37), .ref (B + 38), .int (nI nC), .ref (B + 39), .ref (B + 40), .ref (B + 41), .int (nI nW), .ref (B + 42), .int hi, .ref (B + 43), .int (nI nM), .ref (B + 44), .ref (B + 45), .ref (B + 46)])) := (fr26 _ (by decide)).trans f22
              have q27 : w24 27 = some (kl_aI G 4 ((fun t => nI (cn t)))) := (fr26 _ (by decide)).trans q27
              have q28 : w24 28 = some (kl_aI G 24 O) := (fr26 _ (by decide)).trans q28
              have q29 : w24 29 = some (kl_aI G 96 D) := (fr26 _ (by decide)).trans q29
              have q34 : w24 34 = some (kl_aI G 7 ((fun t => nI (lco t)))) := (fr26 _ (by decide)).trans q34
              have q35 : w24 35 = some (kl_aI G 7 lpa) := (fr26 _ (by decide)).trans q35
              have q36 : w24 36 = some (kl_aI G 7 lwy) := (fr26 _ (by decide)).trans q36
              have frm : ∀ j : Nat, j ≠ 26 → j ≠ 33 → j ≠ 34 → j ≠ 35 → j ≠ 36 → w24 j = w j := fun j k0 k1 k2 k3 k4 => (fr26 j k1).trans (frm j k0 k1 k2 k3 k4)
              refine lv_aload_n hx hb dX5_link_73 rfl (lv_at hl 0 rfl) ?_
              refine kl_get (C := RX5) (T := TX5) (N := 31) (ci := 5) hx hb hts hinX5 hown hK hP f22 rfl 13 (by decide) (hts (.fieldLink RX5 32 "KinLedgerModel" "linkColumn" "[I") (by decide +kernel)) (fun _ h9 => h9) rfl dX5_link_74 ?_
              refine lv_aload_n hx hb dX5_link_77 rfl (lv_at hl 0 rfl) ?_
              refine kl_get (C := RX5) (T := TX5) (N := 31) (ci := 5) hx hb hts hinX5 hown hK hP f22 rfl 11 (by decide) (hts (.fieldLink RX5 106 "KinLedgerModel" "links" "I") (by decide +kernel)) (fun _ h9 => h9) rfl dX5_link_78 ?_
              refine lv_iload_n hx hb dX5_link_81 rfl (lv_at hl 2 rfl) ?_
              refine kl_iast hx hb hK hP q34 (by omega) (by omega) dX5_link_82 (fun w27 H locs f28 fr29 hzw27 hP => ?_)
              rw [kl_nup_upd] at f28
              have f22 : w27 26 = some (.inr (5, [.int (nI 0), .int rs, .int (nI nT), .ref (B + 27), .int (nI n), .ref (B + 28), .ref (B + 29), .int (nI on), .ref (B + 30), .ref (B + 31), .ref (B + 32), .int (nI nL), .ref (B + 33), .ref (B + 34), .ref (B + 35), .ref (B + 36), .int (nI nS), .ref (B + 37), .ref (B + 38), .int (nI nC), .ref (B + 39), .ref (B + 40), .ref (B + 41), .int (nI nW), .ref (B + 42), .int hi, .ref (B + 43), .int (nI nM), .ref (B + 44), .ref (B + 45), .ref (B + 46)])) := (fr29 _ (by decide)).trans f22
              have q27 : w27 27 = some (kl_aI G 4 ((fun t => nI (cn t)))) := (fr29 _ (by decide)).trans q27
              have q28 : w27 28 = some (kl_aI G 24 O) := (fr29 _ (by decide)).trans q28
              have q29 : w27 29 = some (kl_aI G 96 D) := (fr29 _ (by decide)).trans q29
              have f25 : w27 33 = some (kl_aI G 7 (upd lch nL (nI jj))) := (fr29 _ (by decide)).trans f25
              have q35 : w27 35 = some (kl_aI G 7 lpa) := (fr29 _ (by decide)).trans q35
              have q36 : w27 36 = some (kl_aI G 7 lwy) := (fr29 _ (by decide)).trans q36
              have frm : ∀ j : Nat, j ≠ 26 → j ≠ 33 → j ≠ 34 → j ≠ 35 → j ≠ 36 → w27 j = w j := fun j k0 k1 k2 k3 k4 => (fr29 j k2).trans (frm j k0 k1 k2 k3 k4)
              refine lv_aload_n hx hb dX5_link_83 rfl (lv_at hl 0 rfl) ?_
              refine kl_get (C := RX5) (T := TX5) (N := 31) (ci := 5) hx hb hts hinX5 hown hK hP f22 rfl 14 (by decide) (hts (.fieldLink RX5 35 "KinLedgerModel" "parent" "[I") (by decide +kernel)) (fun _ h9 => h9) rfl dX5_link_84 ?_
              refine lv_aload_n hx hb dX5_link_87 rfl (lv_at hl 0 rfl) ?_
              refine kl_get (C := RX5) (T := TX5) (N := 31) (ci := 5) hx hb hts hinX5 hown hK hP f22 rfl 11 (by decide) (hts (.fieldLink RX5 106 "KinLedgerModel" "links" "I") (by decide +kernel)) (fun _ h9 => h9) rfl dX5_link_88 ?_
              refine lv_iload_n hx hb dX5_link_91 rfl (lv_at hl 3 rfl) ?_
              refine kl_iast hx hb hK hP q35 (by omega) (by omega) dX5_link_92 (fun w30 H locs f31 fr32 hzw30 hP => ?_)
              have f22 : w30 26 = some (.inr (5, [.int (nI 0), .int rs, .int (nI nT), .ref (B + 27), .int (nI n), .ref (B + 28), .ref (B + 29), .int (nI on), .ref (B + 30), .ref (B + 31), .ref (B + 32), .int (nI nL), .ref (B + 33), .ref (B + 34), .ref (B + 35), .ref (B + 36), .int (nI nS), .ref (B + 37), .ref (B + 38), .int (nI nC), .ref (B + 39), .ref (B + 40), .ref (B + 41), .int (nI nW), .ref (B + 42), .int hi, .ref (B + 43), .int (nI nM), .ref (B + 44), .ref (B + 45), .ref (B + 46)])) := (fr32 _ (by decide)).trans f22
              have q27 : w30 27 = some (kl_aI G 4 ((fun t => nI (cn t)))) := (fr32 _ (by decide)).trans q27
              have q28 : w30 28 = some (kl_aI G 24 O) := (fr32 _ (by decide)).trans q28
              have q29 : w30 29 = some (kl_aI G 96 D) := (fr32 _ (by decide)).trans q29
              have f25 : w30 33 = some (kl_aI G 7 (upd lch nL (nI jj))) := (fr32 _ (by decide)).trans f25
              have f28 : w30 34 = some (kl_aI G 7 ((fun t => nI ((kl_nup lco nL co) t)))) := (fr32 _ (by decide)).trans f28
              have q36 : w30 36 = some (kl_aI G 7 lwy) := (fr32 _ (by decide)).trans q36
              have frm : ∀ j : Nat, j ≠ 26 → j ≠ 33 → j ≠ 34 → j ≠ 35 → j ≠ 36 → w30 j = w j := fun j k0 k1 k2 k3 k4 => (fr32 j k3).trans (frm j k0 k1 k2 k3 k4)
              refine lv_aload_n hx hb dX5_link_93 rfl (lv_at hl 0 rfl) ?_
              refine kl_get (C := RX5) (T := TX5) (N := 31) (ci := 5) hx hb hts hinX5 hown hK hP f22 rfl 15 (by decide) (hts (.fieldLink RX5 38 "KinLedgerModel" "ways" "[I") (by decide +kernel)) (fun _ h9 => h9) rfl dX5_link_94 ?_
              refine lv_aload_n hx hb dX5_link_97 rfl (lv_at hl 0 rfl) ?_
              refine kl_get (C := RX5) (T := TX5) (N := 31) (ci := 5) hx hb hts hinX5 hown hK hP f22 rfl 11 (by decide) (hts (.fieldLink RX5 106 "KinLedgerModel" "links" "I") (by decide +kernel)) (fun _ h9 => h9) rfl dX5_link_98 ?_
              refine lv_iload hx hb dX5_link_101 (lv_at hl 4 rfl) ?_
              refine kl_iast hx hb hK hP q36 (by omega) (by omega) dX5_link_103 (fun w33 H locs f34 fr35 hzw33 hP => ?_)
              have f22 : w33 26 = some (.inr (5, [.int (nI 0), .int rs, .int (nI nT), .ref (B + 27), .int (nI n), .ref (B + 28), .ref (B + 29), .int (nI on), .ref (B + 30), .ref (B + 31), .ref (B + 32), .int (nI nL), .ref (B + 33), .ref (B + 34), .ref (B + 35), .ref (B + 36), .int (nI nS), .ref (B + 37), .ref (B + 38), .int (nI nC), .ref (B + 39), .ref (B + 40), .ref (B + 41), .int (nI nW), .ref (B + 42), .int hi, .ref (B + 43), .int (nI nM), .ref (B + 44), .ref (B + 45), .ref (B + 46)])) := (fr35 _ (by decide)).trans f22
              have q27 : w33 27 = some (kl_aI G 4 ((fun t => nI (cn t)))) := (fr35 _ (by decide)).trans q27
              have q28 : w33 28 = some (kl_aI G 24 O) := (fr35 _ (by decide)).trans q28
              have q29 : w33 29 = some (kl_aI G 96 D) := (fr35 _ (by decide)).trans q29
              have f25 : w33 33 = some (kl_aI G 7 (upd lch nL (nI jj))) := (fr35 _ (by decide)).trans f25
              have f28 : w33 34 = some (kl_aI G 7 ((fun t => nI ((kl_nup lco nL co) t)))) := (fr35 _ (by decide)).trans f28
              have f31 : w33 35 = some (kl_aI G 7 (upd lpa nL pa)) := (fr35 _ (by decide)).trans f31
              have frm : ∀ j : Nat, j ≠ 26 → j ≠ 33 → j ≠ 34 → j ≠ 35 → j ≠ 36 → w33 j = w j := fun j k0 k1 k2 k3 k4 => (fr35 j k4).trans (frm j k0 k1 k2 k3 k4)
              refine lv_aload_n hx hb dX5_link_104 rfl (lv_at hl 0 rfl) ?_
              refine lv_aload_n hx hb dX5_link_105 rfl (lv_at hl 0 rfl) ?_
              refine kl_get (C := RX5) (T := TX5) (N := 31) (ci := 5) hx hb hts hinX5 hown hK hP f22 rfl 11 (by decide) (hts (.fieldLink RX5 106 "KinLedgerModel" "links" "I") (by decide +kernel)) (fun _ h9 => h9) rfl dX5_link_106 ?_
              refine kl_cVi (C := RX5) (i := 26) (As := [.int (nI nL)]) (rest := []) ⟨hx, hb, hml, hown, hts⟩ (c_X5_breaksLink l G B _ nL f22 q28 q29 f25 f28 f31 (by omega) (by omega) (by rw [kl_nup_s]; omega) (by rw [pk_us]; exact kl_nm1 (by omega)) (by rw [pk_us]; exact hpa9)) (cwV 1 hts gX5_link_X5_breaksLink rfl rfl rfl (by decide +kernel) ⟨Nat.le_of_ble_eq_true rfl, Nat.le_of_ble_eq_true rfl⟩) hK hP f22 rfl rfl hl.1 rfl (Nat.le_of_ble_eq_true rfl) dX5_link_109 ⟨Nat.le_of_ble_eq_true rfl, Nat.le_of_ble_eq_true rfl⟩ (fun r38 w36 H locs q37 hP => ?_)
              obtain ⟨rfl, hv39⟩ := q37
              rw [pk_us, kl_nup_s, pk_us] at hv39
              refine kl_ifeq (tgt := 134) hx hb hv39 dX5_link_112 (by decide) (fun c112 => ?_) (fun c112 => ?_)
              · refine lv_aload_n hx hb dX5_link_134 rfl (lv_at hl 0 rfl) ?_
                refine lv_dup hx hb dX5_link_135 rfl ?_
                refine kl_get (C := RX5) (T := TX5) (N := 31) (ci := 5) hx hb hts hinX5 hown hK hP f22 rfl 11 (by decide) (hts (.fieldLink RX5 106 "KinLedgerModel" "links" "I") (by decide +kernel)) (fun _ h9 => h9) rfl dX5_link_136 ?_
                refine lv_iconst (v := nI 1) hx hb dX5_link_139 (by decide) ?_
                refine lv_iadd hx hb dX5_link_140 ?_
                refine kl_top (z := nI (nL + 1)) (by first | exact nI_add _ _ | (rw [nI_add]; first | rfl | (congr 1; omega))) ?_
                refine kl_put (C := RX5) (T := TX5) (N := 31) (ci := 5) (v := .int (nI (nL + 1))) (ty := .int) hx hb hts hinX5 tyX5 tyX5_ok nmX5 hown hK hP f22 rfl 11 (by decide) (hts (.fieldLink RX5 106 "KinLedgerModel" "links" "I") (by decide +kernel)) (fun _ h9 => h9) rfl (by decide +kernel) rfl rfl (Nat.le_of_ble_eq_true rfl) dX5_link_141 (fun w40 H locs f41 fr42 hzw40 hP => ?_)
                have f41 : w40 26 = some (.inr (5, [.int (nI 0), .int rs, .int (nI nT), .ref (B + 27), .int (nI n), .ref (B + 28), .ref (B + 29), .int (nI on), .ref (B + 30), .ref (B + 31), .ref (B + 32), .int (nI (nL + 1)), .ref (B + 33), .ref (B + 34), .ref (B + 35), .ref (B + 36), .int (nI nS), .ref (B + 37), .ref (B + 38), .int (nI nC), .ref (B + 39), .ref (B + 40), .ref (B + 41), .int (nI nW), .ref (B + 42), .int hi, .ref (B + 43), .int (nI nM), .ref (B + 44), .ref (B + 45), .ref (B + 46)])) := f41
                have q27 : w40 27 = some (kl_aI G 4 ((fun t => nI (cn t)))) := (fr42 _ (by decide)).trans q27
                have q28 : w40 28 = some (kl_aI G 24 O) := (fr42 _ (by decide)).trans q28
                have q29 : w40 29 = some (kl_aI G 96 D) := (fr42 _ (by decide)).trans q29
                have f25 : w40 33 = some (kl_aI G 7 (upd lch nL (nI jj))) := (fr42 _ (by decide)).trans f25
                have f28 : w40 34 = some (kl_aI G 7 ((fun t => nI ((kl_nup lco nL co) t)))) := (fr42 _ (by decide)).trans f28
                have f31 : w40 35 = some (kl_aI G 7 (upd lpa nL pa)) := (fr42 _ (by decide)).trans f31
                have f34 : w40 36 = some (kl_aI G 7 (upd lwy nL wy)) := (fr42 _ (by decide)).trans f34
                have frm : ∀ j : Nat, j ≠ 26 → j ≠ 33 → j ≠ 34 → j ≠ 35 → j ≠ 36 → w40 j = w j := fun j k0 k1 k2 k3 k4 => (fr42 j k0).trans (frm j k0 k1 k2 k3 k4)
                refine lv_aload_n hx hb dX5_link_144 rfl (lv_at hl 0 rfl) ?_
                refine kl_get (C := RX5) (T := TX5) (N := 31) (ci := 5) hx hb hts hinX5 hown hK hP f41 rfl 11 (by decide) (hts (.fieldLink RX5 106 "KinLedgerModel" "links" "I") (by decide +kernel)) (fun _ h9 => h9) rfl dX5_link_145 ?_
                refine lv_iconst (v := nI 1) hx hb dX5_link_148 (by decide) ?_
                refine lv_isub hx hb dX5_link_149 ?_
                refine kl_top (z := nI nL) (by first | exact pk_sub (by omega) | (rw [pk_sub (by omega)]; congr 1; omega)) ?_
                exact kl_iret hx hb hr hlocks hP (Or.inr (Or.inr (Or.inr (⟨hok, by omega, rfl, co, rfl, hco0, by omega, c112, f41, ⟨_, _, _, _, f25, f28, f31, f34, fun j hj => ⟨pk_un (by omega), kl_nup_n (by omega), pk_un (by omega), pk_un (by omega)⟩, pk_us, kl_nup_s, pk_us, pk_us⟩, frm⟩)))) dX5_link_150
              · refine lv_aload_n hx hb dX5_link_115 rfl (lv_at hl 0 rfl) ?_
                refine lv_iconst (v := nI 3) hx hb dX5_link_116 (by decide) ?_
                refine kl_put (C := RX5) (T := TX5) (N := 31) (ci := 5) (v := .int (nI 3)) (ty := .int) hx hb hts hinX5 tyX5 tyX5_ok nmX5 hown hK hP f22 rfl 0 (by decide) (hts (.fieldLink RX5 71 "KinLedgerModel" "code" "I") (by decide +kernel)) (fun _ h9 => h9) rfl (by decide +kernel) rfl rfl (Nat.le_of_ble_eq_true rfl) dX5_link_117 (fun w43 H locs f44 fr45 hzw43 hP => ?_)
                have f44 : w43 26 = some (.inr (5, [.int (nI 3), .int rs, .int (nI nT), .ref (B + 27), .int (nI n), .ref (B + 28), .ref (B + 29), .int (nI on), .ref (B + 30), .ref (B + 31), .ref (B + 32), .int (nI nL), .ref (B + 33), .ref (B + 34), .ref (B + 35), .ref (B + 36), .int (nI nS), .ref (B + 37), .ref (B + 38), .int (nI nC), .ref (B + 39), .ref (B + 40), .ref (B + 41), .int (nI nW), .ref (B + 42), .int hi, .ref (B + 43), .int (nI nM), .ref (B + 44), .ref (B + 45), .ref (B + 46)])) := f44
                have q27 : w43 27 = some (kl_aI G 4 ((fun t => nI (cn t)))) := (fr45 _ (by decide)).trans q27
                have q28 : w43 28 = some (kl_aI G 24 O) := (fr45 _ (by decide)).trans q28
                have q29 : w43 29 = some (kl_aI G 96 D) := (fr45 _ (by decide)).trans q29
                have f25 : w43 33 = some (kl_aI G 7 (upd lch nL (nI jj))) := (fr45 _ (by decide)).trans f25
                have f28 : w43 34 = some (kl_aI G 7 ((fun t => nI ((kl_nup lco nL co) t)))) := (fr45 _ (by decide)).trans f28
                have f31 : w43 35 = some (kl_aI G 7 (upd lpa nL pa)) := (fr45 _ (by decide)).trans f31
                have f34 : w43 36 = some (kl_aI G 7 (upd lwy nL wy)) := (fr45 _ (by decide)).trans f34
                have frm : ∀ j : Nat, j ≠ 26 → j ≠ 33 → j ≠ 34 → j ≠ 35 → j ≠ 36 → w43 j = w j := fun j k0 k1 k2 k3 k4 => (fr45 j k0).trans (frm j k0 k1 k2 k3 k4)
                refine lv_aload_n hx hb dX5_link_120 rfl (lv_at hl 0 rfl) ?_
                refine lv_sipush (v := nI 400) hx hb dX5_link_121 (by decide) ?_
                refine lv_aload_n hx hb dX5_link_124 rfl (lv_at hl 0 rfl) ?_
                refine kl_get (C := RX5) (T := TX5) (N := 31) (ci := 5) hx hb hts hinX5 hown hK hP f44 rfl 11 (by decide) (hts (.fieldLink RX5 106 "KinLedgerModel" "links" "I") (by decide +kernel)) (fun _ h9 => h9) rfl dX5_link_125 ?_
                refine lv_iadd hx hb dX5_link_128 ?_
                refine kl_top (z := nI (400 + nL)) (by first | exact nI_add _ _ | (rw [nI_add]; first | rfl | (congr 1; omega))) ?_
                refine kl_put (C := RX5) (T := TX5) (N := 31) (ci := 5) (v := .int (nI (400 + nL))) (ty := .int) hx hb hts hinX5 tyX5 tyX5_ok nmX5 hown hK hP f44 rfl 1 (by decide) (hts (.fieldLink RX5 121 "KinLedgerModel" "reason" "I") (by decide +kernel)) (fun _ h9 => h9) rfl (by decide +kernel) rfl rfl (Nat.le_of_ble_eq_true rfl) dX5_link_129 (fun w46 H locs f47 fr48 hzw46 hP => ?_)
                have f47 : w46 26 = some (.inr (5, [.int (nI 3), .int (nI (400 + nL)), .int (nI nT), .ref (B + 27), .int (nI n), .ref (B + 28), .ref (B + 29), .int (nI on), .ref (B + 30), .ref (B + 31), .ref (B + 32), .int (nI nL), .ref (B + 33), .ref (B + 34), .ref (B + 35), .ref (B + 36), .int (nI nS), .ref (B + 37), .ref (B + 38), .int (nI nC), .ref (B + 39), .ref (B + 40), .ref (B + 41), .int (nI nW), .ref (B + 42), .int hi, .ref (B + 43), .int (nI nM), .ref (B + 44), .ref (B + 45), .ref (B + 46)])) := f47
                have q27 : w46 27 = some (kl_aI G 4 ((fun t => nI (cn t)))) := (fr48 _ (by decide)).trans q27
                have q28 : w46 28 = some (kl_aI G 24 O) := (fr48 _ (by decide)).trans q28
                have q29 : w46 29 = some (kl_aI G 96 D) := (fr48 _ (by decide)).trans q29
                have f25 : w46 33 = some (kl_aI G 7 (upd lch nL (nI jj))) := (fr48 _ (by decide)).trans f25
                have f28 : w46 34 = some (kl_aI G 7 ((fun t => nI ((kl_nup lco nL co) t)))) := (fr48 _ (by decide)).trans f28
                have f31 : w46 35 = some (kl_aI G 7 (upd lpa nL pa)) := (fr48 _ (by decide)).trans f31
                have f34 : w46 36 = some (kl_aI G 7 (upd lwy nL wy)) := (fr48 _ (by decide)).trans f34
                have frm : ∀ j : Nat, j ≠ 26 → j ≠ 33 → j ≠ 34 → j ≠ 35 → j ≠ 36 → w46 j = w j := fun j k0 k1 k2 k3 k4 => (fr48 j k0).trans (frm j k0 k1 k2 k3 k4)
                refine lv_iconst (v := nI 0) hx hb dX5_link_132 (by decide) ?_
                exact kl_iret hx hb hr hlocks hP (Or.inr (Or.inr (Or.inl (⟨hok, by omega, co, rfl, by omega, c112, f47, ⟨_, _, _, _, f25, f28, f31, f34, fun j hj => ⟨pk_un (by omega), kl_nup_n (by omega), pk_un (by omega), pk_un (by omega)⟩⟩, frm⟩)))) dX5_link_133
            · refine lv_iconst (v := nI 2) hx hb dX5_link_46 (by decide) ?_
              refine lv_goto (tgt := 51) hx hb dX5_link_47 (by decide) ?_
              refine kl_put (C := RX5) (T := TX5) (N := 31) (ci := 5) (v := .int (nI 2)) (ty := .int) hx hb hts hinX5 tyX5 tyX5_ok nmX5 hown hK hP q26 rfl 0 (by decide) (hts (.fieldLink RX5 71 "KinLedgerModel" "code" "I") (by decide +kernel)) (fun _ h9 => h9) rfl (by decide +kernel) rfl rfl (Nat.le_of_ble_eq_true rfl) dX5_link_51 (fun w49 H locs f50 fr51 hzw49 hP => ?_)
              have f50 : w49 26 = some (.inr (5, [.int (nI 2), .int rs, .int (nI nT), .ref (B + 27), .int (nI n), .ref (B + 28), .ref (B + 29), .int (nI on), .ref (B + 30), .ref (B + 31), .ref (B + 32), .int (nI nL), .ref (B + 33), .ref (B + 34), .ref (B + 35), .ref (B + 36), .int (nI nS), .ref (B + 37), .ref (B + 38), .int (nI nC), .ref (B + 39), .ref (B + 40), .ref (B + 41), .int (nI nW), .ref (B + 42), .int hi, .ref (B + 43), .int (nI nM), .ref (B + 44), .ref (B + 45), .ref (B + 46)])) := f50
              have q27 : w49 27 = some (kl_aI G 4 ((fun t => nI (cn t)))) := (fr51 _ (by decide)).trans q27
              have q28 : w49 28 = some (kl_aI G 24 O) := (fr51 _ (by decide)).trans q28
              have q29 : w49 29 = some (kl_aI G 96 D) := (fr51 _ (by decide)).trans q29
              have q33 : w49 33 = some (kl_aI G 7 lch) := (fr51 _ (by decide)).trans q33
              have q34 : w49 34 = some (kl_aI G 7 ((fun t => nI (lco t)))) := (fr51 _ (by decide)).trans q34
              have q35 : w49 35 = some (kl_aI G 7 lpa) := (fr51 _ (by decide)).trans q35
              have q36 : w49 36 = some (kl_aI G 7 lwy) := (fr51 _ (by decide)).trans q36
              have frm : ∀ j : Nat, j ≠ 26 → j ≠ 33 → j ≠ 34 → j ≠ 35 → j ≠ 36 → w49 j = w j := fun j k0 k1 k2 k3 k4 => (fr51 j k0).trans (frm j k0 k1 k2 k3 k4)
              refine lv_aload_n hx hb dX5_link_54 rfl (lv_at hl 0 rfl) ?_
              refine kl_get (C := RX5) (T := TX5) (N := 31) (ci := 5) hx hb hts hinX5 hown hK hP f50 rfl 0 (by decide) (hts (.fieldLink RX5 71 "KinLedgerModel" "code" "I") (by decide +kernel)) (fun _ h9 => h9) rfl dX5_link_55 ?_
              refine kl_z_le (tgt := 63) hx hb (by omega) dX5_link_58 (by decide) (fun c58 => absurd c58 (by omega)) (fun c58 => ?_)
              refine lv_iconst (v := nI 0) hx hb dX5_link_61 (by decide) ?_
              exact kl_iret hx hb hr hlocks hP (Or.inr (Or.inl (⟨hok, by omega, f50, ⟨_, _, _, _, q33, q34, q35, q36, fun j hj => ⟨rfl, rfl, rfl, rfl⟩⟩, frm⟩))) dX5_link_62
          · refine lv_iconst (v := nI 1) hx hb dX5_link_33 (by decide) ?_
            refine lv_goto (tgt := 51) hx hb dX5_link_34 (by decide) ?_
            refine kl_put (C := RX5) (T := TX5) (N := 31) (ci := 5) (v := .int (nI 1)) (ty := .int) hx hb hts hinX5 tyX5 tyX5_ok nmX5 hown hK hP q26 rfl 0 (by decide) (hts (.fieldLink RX5 71 "KinLedgerModel" "code" "I") (by decide +kernel)) (fun _ h9 => h9) rfl (by decide +kernel) rfl rfl (Nat.le_of_ble_eq_true rfl) dX5_link_51 (fun w52 H locs f53 fr54 hzw52 hP => ?_)
            have f53 : w52 26 = some (.inr (5, [.int (nI 1), .int rs, .int (nI nT), .ref (B + 27), .int (nI n), .ref (B + 28), .ref (B + 29), .int (nI on), .ref (B + 30), .ref (B + 31), .ref (B + 32), .int (nI nL), .ref (B + 33), .ref (B + 34), .ref (B + 35), .ref (B + 36), .int (nI nS), .ref (B + 37), .ref (B + 38), .int (nI nC), .ref (B + 39), .ref (B + 40), .ref (B + 41), .int (nI nW), .ref (B + 42), .int hi, .ref (B + 43), .int (nI nM), .ref (B + 44), .ref (B + 45), .ref (B + 46)])) := f53
            have q27 : w52 27 = some (kl_aI G 4 ((fun t => nI (cn t)))) := (fr54 _ (by decide)).trans q27
            have q28 : w52 28 = some (kl_aI G 24 O) := (fr54 _ (by decide)).trans q28
            have q29 : w52 29 = some (kl_aI G 96 D) := (fr54 _ (by decide)).trans q29
            have q33 : w52 33 = some (kl_aI G 7 lch) := (fr54 _ (by decide)).trans q33
            have q34 : w52 34 = some (kl_aI G 7 ((fun t => nI (lco t)))) := (fr54 _ (by decide)).trans q34
            have q35 : w52 35 = some (kl_aI G 7 lpa) := (fr54 _ (by decide)).trans q35
            have q36 : w52 36 = some (kl_aI G 7 lwy) := (fr54 _ (by decide)).trans q36
            have frm : ∀ j : Nat, j ≠ 26 → j ≠ 33 → j ≠ 34 → j ≠ 35 → j ≠ 36 → w52 j = w j := fun j k0 k1 k2 k3 k4 => (fr54 j k0).trans (frm j k0 k1 k2 k3 k4)
            refine lv_aload_n hx hb dX5_link_54 rfl (lv_at hl 0 rfl) ?_
            refine kl_get (C := RX5) (T := TX5) (N := 31) (ci := 5) hx hb hts hinX5 hown hK hP f53 rfl 0 (by decide) (hts (.fieldLink RX5 71 "KinLedgerModel" "code" "I") (by decide +kernel)) (fun _ h9 => h9) rfl dX5_link_55 ?_
            refine kl_z_le (tgt := 63) hx hb (by omega) dX5_link_58 (by decide) (fun c58 => absurd c58 (by omega)) (fun c58 => ?_)
            refine lv_iconst (v := nI 0) hx hb dX5_link_61 (by decide) ?_
            exact kl_iret hx hb hr hlocks hP (Or.inl (⟨fun z => md_way_n (Or.inr c30) z.2.2, f53, ⟨_, _, _, _, q33, q34, q35, q36, fun j hj => ⟨rfl, rfl, rfl, rfl⟩⟩, frm⟩)) dX5_link_62

abbrev rm_X5_single : Room := { frames := 2, cells := 0, slots := 0, locals := 43 }
set_option maxHeartbeats 4000000 in
set_option maxRecDepth 100000 in
theorem c_X5_single (l : Launch) (G : kl_G) (B : Nat) (w : kl_M) {nT nL nS nC nW nM n on : Nat} {ec rs hi : Int32} {cn : Nat → Nat} {O D stb : Nat → Int32} {sco : Nat → Nat} (tb cc : Int32) (q26 : w 26 = some (.inr (5, [.int ec, .int rs, .int (nI nT), .ref (B + 27), .int (nI n), .ref (B + 28), .ref (B + 29), .int (nI on), .ref (B + 30), .ref (B + 31), .ref (B + 32), .int (nI nL), .ref (B + 33), .ref (B + 34), .ref (B + 35), .ref (B + 36), .int (nI nS), .ref (B + 37), .ref (B + 38), .int (nI nC), .ref (B + 39), .ref (B + 40), .ref (B + 41), .int (nI nW), .ref (B + 42), .int hi, .ref (B + 43), .int (nI nM), .ref (B + 44), .ref (B + 45), .ref (B + 46)]))) (q27 : w 27 = some (kl_aI G 4 ((fun t => nI (cn t))))) (q28 : w 28 = some (kl_aI G 24 O)) (q29 : w 29 = some (kl_aI G 96 D)) (q37 : w 37 = some (kl_aI G 5 stb)) (q38 : w 38 = some (kl_aI G 5 ((fun t => nI (sco t))))) (hn : nT ≤ 4) (hnS : nS ≤ 4) (hnn : n ≤ 24) (hcn4 : ∀ j, j < nT → cn j ≤ 4) : Met l yX5_single wsX5_single rm_X5_single (kl_Pc G B w [.ref (B + 26), .int tb, .int cc]) (kl_Qi G B (fun r w1 => (¬ (mt_col tb cc nT cn ∧ cc ≠ 0) ∧ w1 26 = some (.inr (5, [.int (nI 1), .int rs, .int (nI nT), .ref (B + 27), .int (nI n), .ref (B + 28), .ref (B + 29), .int (nI on), .ref (B + 30), .ref (B + 31), .ref (B + 32), .int (nI nL), .ref (B + 33), .ref (B + 34), .ref (B + 35), .ref (B + 36), .int (nI nS), .ref (B + 37), .ref (B + 38), .int (nI nC), .ref (B + 39), .ref (B + 40), .ref (B + 41), .int (nI nW), .ref (B + 42), .int hi, .ref (B + 43), .int (nI nM), .ref (B + 44), .ref (B + 45), .ref (B + 46)])) ∧ (∃ (stb2 : Nat → Int32) (sco2 : Nat → Nat), w1 37 = some (kl_aI G 5 stb2) ∧ w1 38 = some (kl_aI G 5 (fun t => nI (sco2 t))) ∧ (∀ j, j < nS → stb2 j = stb j ∧ sco2 j = sco j)) ∧ ∀ j : Nat, j ≠ 26 → j ≠ 37 → j ≠ 38 → w1 j = w j) ∨ ((mt_col tb cc nT cn ∧ cc ≠ 0) ∧ ¬ nS < 4 ∧ w1 26 = some (.inr (5, [.int (nI 2), .int rs, .int (nI nT), .ref (B + 27), .int (nI n), .ref (B + 28), .ref (B + 29), .int (nI on), .ref (B + 30), .ref (B + 31), .ref (B + 32), .int (nI nL), .ref (B + 33), .ref (B + 34), .ref (B + 35), .ref (B + 36), .int (nI nS), .ref (B + 37), .ref (B + 38), .int (nI nC), .ref (B + 39), .ref (B + 40), .ref (B + 41), .int (nI nW), .ref (B + 42), .int hi, .ref (B + 43), .int (nI nM), .ref (B + 44), .ref (B + 45), .ref (B + 46)])) ∧ (∃ (stb2 : Nat → Int32) (sco2 : Nat → Nat), w1 37 = some (kl_aI G 5 stb2) ∧ w1 38 = some (kl_aI G 5 (fun t => nI (sco2 t))) ∧ (∀ j, j < nS → stb2 j = stb j ∧ sco2 j = sco j)) ∧ ∀ j : Nat, j ≠ 26 → j ≠ 37 → j ≠ 38 → w1 j = w j) ∨ ((mt_col tb cc nT cn ∧ cc ≠ 0) ∧ nS < 4 ∧ ∃ co, cc = nI co ∧ co < 4 ∧ mt_twin (md_T n O) D tb co ∧ w1 26 = some (.inr (5, [.int (nI 3), .int (nI (300 + nS)), .int (nI nT), .ref (B + 27), .int (nI n), .ref (B + 28), .ref (B + 29), .int (nI on), .ref (B + 30), .ref (B + 31), .ref (B + 32), .int (nI nL), .ref (B + 33), .ref (B + 34), .ref (B + 35), .ref (B + 36), .int (nI nS), .ref (B + 37), .ref (B + 38), .int (nI nC), .ref (B + 39), .ref (B + 40), .ref (B + 41), .int (nI nW), .ref (B + 42), .int hi, .ref (B + 43), .int (nI nM), .ref (B + 44), .ref (B + 45), .ref (B + 46)])) ∧ (∃ (stb2 : Nat → Int32) (sco2 : Nat → Nat), w1 37 = some (kl_aI G 5 stb2) ∧ w1 38 = some (kl_aI G 5 (fun t => nI (sco2 t))) ∧ (∀ j, j < nS → stb2 j = stb j ∧ sco2 j = sco j)) ∧ ∀ j : Nat, j ≠ 26 → j ≠ 37 → j ≠ 38 → w1 j = w j) ∨ ((mt_col tb cc nT cn ∧ cc ≠ 0) ∧ nS < 4 ∧ r = nI nS ∧ ∃ co, cc = nI co ∧ 0 < co ∧ co < 4 ∧ ¬ mt_twin (md_T n O) D tb co ∧ w1 26 = some (.inr (5, [.int (nI 0), .int rs, .int (nI nT), .ref (B + 27), .int (nI n), .ref (B + 28), .ref (B + 29), .int (nI on), .ref (B + 30), .ref (B + 31), .ref (B + 32), .int (nI nL), .ref (B + 33), .ref (B + 34), .ref (B + 35), .ref (B + 36), .int (nI (nS + 1)), .ref (B + 37), .ref (B + 38), .int (nI nC), .ref (B + 39), .ref (B + 40), .ref (B + 41), .int (nI nW), .ref (B + 42), .int hi, .ref (B + 43), .int (nI nM), .ref (B + 44), .ref (B + 45), .ref (B + 46)])) ∧ (∃ (stb2 : Nat → Int32) (sco2 : Nat → Nat), w1 37 = some (kl_aI G 5 stb2) ∧ w1 38 = some (kl_aI G 5 (fun t => nI (sco2 t))) ∧ (∀ j, j < nS → stb2 j = stb j ∧ sco2 j = sco j) ∧ stb2 nS = tb ∧ sco2 nS = co) ∧ ∀ j : Nat, j ≠ 26 → j ≠ 37 → j ≠ 38 → w1 j = w j))) 0 0 (kl_fr B) := by
  refine Met.ofW (cc := cX5_single) (maxL := 3) (ret := (some .int)) (by decide) rfl ?_
  intro pg e s m args below meth cd s₁ Bd hml hv
  obtain ⟨rfl, hP0, hK⟩ := hv
  have hx := Bd.exec
  have hb := Bd.bytes
  have hr := Bd.returns
  have hts := atoms_spec (ws := wsX5_single) Bd.pre
  have hown : s.vm.findClass RX5 = some m.cls := findClass_of_methodNamed Bd.named
  have hlocks := Bd.notSynchronized
  have hinX5 : ∀ w ∈ u_ws RX5 TX5 31, w ∈ wsX5_single := by decide +kernel
  have hP := kl_S.rf hP0
  have hl := lv_entry ([.ref (B + 26), .int tb, .int cc]) (n := 3) (Nat.le_of_ble_eq_true rfl)
  rw [lg_entry_eq]
  generalize (lg_sl ([.ref (B + 26), .int tb, .int cc]) ++ List.replicate (3 - (lg_sl ([.ref (B + 26), .int tb, .int cc])).length) Slot.unset).toArray = ls at hl ⊢
  have hl : lv_has ls 3 [(0, .ref (B + 26)), (1, .int tb), (2, .int cc)] := hl
  have frm : ∀ j : Nat, j ≠ 26 → j ≠ 37 → j ≠ 38 → w j = w j := fun j _ _ _ => rfl
  refine lv_aload_n hx hb dX5_single_0 rfl (lv_at hl 0 rfl) ?_
  refine lv_aload_n hx hb dX5_single_1 rfl (lv_at hl 0 rfl) ?_
  refine lv_iload_n hx hb dX5_single_2 rfl (lv_at hl 1 rfl) ?_
  refine lv_iload_n hx hb dX5_single_3 rfl (lv_at hl 2 rfl) ?_
  refine kl_cVi (C := RX5) (i := 26) (As := [.int tb, .int cc]) (rest := [.ref (B + 26)]) ⟨hx, hb, hml, hown, hts⟩ (c_X5_isColumn l G B _ tb cc q26 q27 (by omega) hcn4) (cwV 2 hts gX5_single_X5_isColumn rfl rfl rfl (by decide +kernel) ⟨Nat.le_of_ble_eq_true rfl, Nat.le_of_ble_eq_true rfl⟩) hK hP q26 rfl rfl hl.1 rfl (Nat.le_of_ble_eq_true rfl) dX5_single_4 ⟨Nat.le_of_ble_eq_true rfl, Nat.le_of_ble_eq_true rfl⟩ (fun r3 w1 H locs q2 hP => ?_)
  obtain ⟨rfl, hv4⟩ := q2
  refine kl_ifeq (tgt := 14) hx hb hv4 dX5_single_7 (by decide) (fun c7 => ?_) (fun c7 => ?_)
  · refine lv_iconst (v := nI 1) hx hb dX5_single_14 (by decide) ?_
    refine lv_goto (tgt := 44) hx hb dX5_single_15 (by decide) ?_
    refine kl_put (C := RX5) (T := TX5) (N := 31) (ci := 5) (v := .int (nI 1)) (ty := .int) hx hb hts hinX5 tyX5 tyX5_ok nmX5 hown hK hP q26 rfl 0 (by decide) (hts (.fieldLink RX5 71 "KinLedgerModel" "code" "I") (by decide +kernel)) (fun _ h9 => h9) rfl (by decide +kernel) rfl rfl (Nat.le_of_ble_eq_true rfl) dX5_single_44 (fun w5 H locs f6 fr7 hzw5 hP => ?_)
    have f6 : w5 26 = some (.inr (5, [.int (nI 1), .int rs, .int (nI nT), .ref (B + 27), .int (nI n), .ref (B + 28), .ref (B + 29), .int (nI on), .ref (B + 30), .ref (B + 31), .ref (B + 32), .int (nI nL), .ref (B + 33), .ref (B + 34), .ref (B + 35), .ref (B + 36), .int (nI nS), .ref (B + 37), .ref (B + 38), .int (nI nC), .ref (B + 39), .ref (B + 40), .ref (B + 41), .int (nI nW), .ref (B + 42), .int hi, .ref (B + 43), .int (nI nM), .ref (B + 44), .ref (B + 45), .ref (B + 46)])) := f6
    have q27 : w5 27 = some (kl_aI G 4 ((fun t => nI (cn t)))) := (fr7 _ (by decide)).trans q27
    have q28 : w5 28 = some (kl_aI G 24 O) := (fr7 _ (by decide)).trans q28
    have q29 : w5 29 = some (kl_aI G 96 D) := (fr7 _ (by decide)).trans q29
    have q37 : w5 37 = some (kl_aI G 5 stb) := (fr7 _ (by decide)).trans q37
    have q38 : w5 38 = some (kl_aI G 5 ((fun t => nI (sco t)))) := (fr7 _ (by decide)).trans q38
    have frm : ∀ j : Nat, j ≠ 26 → j ≠ 37 → j ≠ 38 → w5 j = w j := fun j k0 k1 k2 => (fr7 j k0).trans (frm j k0 k1 k2)
    refine lv_aload_n hx hb dX5_single_47 rfl (lv_at hl 0 rfl) ?_
    refine lv_aload_n hx hb dX5_single_48 rfl (lv_at hl 0 rfl) ?_
    refine kl_get (C := RX5) (T := TX5) (N := 31) (ci := 5) hx hb hts hinX5 hown hK hP f6 rfl 0 (by decide) (hts (.fieldLink RX5 71 "KinLedgerModel" "code" "I") (by decide +kernel)) (fun _ h9 => h9) rfl dX5_single_49 ?_
    refine lv_iconst (v := nI 3) hx hb dX5_single_52 (by decide) ?_
    refine kl_ne (tgt := 67) hx hb (by omega) (by omega) dX5_single_53 (by decide) (fun c53 => ?_) (fun c53 => absurd c53 (by omega))
    refine lv_aload_n hx hb dX5_single_67 rfl (lv_at hl 0 rfl) ?_
    refine kl_get (C := RX5) (T := TX5) (N := 31) (ci := 5) hx hb hts hinX5 hown hK hP f6 rfl 1 (by decide) (hts (.fieldLink RX5 121 "KinLedgerModel" "reason" "I") (by decide +kernel)) (fun _ h9 => h9) rfl dX5_single_68 ?_
    refine kl_put (C := RX5) (T := TX5) (N := 31) (ci := 5) (v := .int rs) (ty := .int) hx hb hts hinX5 tyX5 tyX5_ok nmX5 hown hK hP f6 rfl 1 (by decide) (hts (.fieldLink RX5 121 "KinLedgerModel" "reason" "I") (by decide +kernel)) (fun _ h9 => h9) rfl (by decide +kernel) rfl rfl (Nat.le_of_ble_eq_true rfl) dX5_single_71 (fun w8 H locs f9 fr10 hzw8 hP => ?_)
    have f9 : w8 26 = some (.inr (5, [.int (nI 1), .int rs, .int (nI nT), .ref (B + 27), .int (nI n), .ref (B + 28), .ref (B + 29), .int (nI on), .ref (B + 30), .ref (B + 31), .ref (B + 32), .int (nI nL), .ref (B + 33), .ref (B + 34), .ref (B + 35), .ref (B + 36), .int (nI nS), .ref (B + 37), .ref (B + 38), .int (nI nC), .ref (B + 39), .ref (B + 40), .ref (B + 41), .int (nI nW), .ref (B + 42), .int hi, .ref (B + 43), .int (nI nM), .ref (B + 44), .ref (B + 45), .ref (B + 46)])) := f9
    have q27 : w8 27 = some (kl_aI G 4 ((fun t => nI (cn t)))) := (fr10 _ (by decide)).trans q27
    have q28 : w8 28 = some (kl_aI G 24 O) := (fr10 _ (by decide)).trans q28
    have q29 : w8 29 = some (kl_aI G 96 D) := (fr10 _ (by decide)).trans q29
    have q37 : w8 37 = some (kl_aI G 5 stb) := (fr10 _ (by decide)).trans q37
    have q38 : w8 38 = some (kl_aI G 5 ((fun t => nI (sco t)))) := (fr10 _ (by decide)).trans q38
    have frm : ∀ j : Nat, j ≠ 26 → j ≠ 37 → j ≠ 38 → w8 j = w j := fun j k0 k1 k2 => (fr10 j k0).trans (frm j k0 k1 k2)
    refine lv_aload_n hx hb dX5_single_74 rfl (lv_at hl 0 rfl) ?_
    refine kl_get (C := RX5) (T := TX5) (N := 31) (ci := 5) hx hb hts hinX5 hown hK hP f9 rfl 0 (by decide) (hts (.fieldLink RX5 71 "KinLedgerModel" "code" "I") (by decide +kernel)) (fun _ h9 => h9) rfl dX5_single_75 ?_
    refine kl_z_le (tgt := 83) hx hb (by omega) dX5_single_78 (by decide) (fun c78 => absurd c78 (by omega)) (fun c78 => ?_)
    refine lv_iconst (v := nI 0) hx hb dX5_single_81 (by decide) ?_
    exact kl_iret hx hb hr hlocks hP (Or.inl (⟨fun z => c7 z.1, f9, ⟨_, _, q37, q38, fun j hj => ⟨rfl, rfl⟩⟩, frm⟩)) dX5_single_82
  · refine lv_iload_n hx hb dX5_single_10 rfl (lv_at hl 2 rfl) ?_
    refine lv_if_ne (tgt := 18) hx hb dX5_single_11 (by decide) (fun c11 => ?_) (fun c11 => ?_)
    · have hok : (mt_col tb cc nT cn ∧ cc ≠ 0) := ⟨c7, c11⟩
      obtain ⟨jj, co, hjj, rfl, hco4, rfl⟩ := c7
      have hco5 := hcn4 jj hjj
      have hco0 : 0 < co := Nat.pos_of_ne_zero (fun z => c11 (by rw [z]; rfl))
      refine lv_aload_n hx hb dX5_single_18 rfl (lv_at hl 0 rfl) ?_
      refine kl_get (C := RX5) (T := TX5) (N := 31) (ci := 5) hx hb hts hinX5 hown hK hP q26 rfl 16 (by decide) (hts (.fieldLink RX5 103 "KinLedgerModel" "singles" "I") (by decide +kernel)) (fun _ h9 => h9) rfl dX5_single_19 ?_
      refine lv_iconst (v := nI 4) hx hb dX5_single_22 (by decide) ?_
      refine kl_ne (tgt := 30) hx hb (by omega) (by omega) dX5_single_23 (by decide) (fun c23 => ?_) (fun c23 => ?_)
      · refine lv_aload_n hx hb dX5_single_30 rfl (lv_at hl 0 rfl) ?_
        refine lv_iload_n hx hb dX5_single_31 rfl (lv_at hl 1 rfl) ?_
        refine lv_iload_n hx hb dX5_single_32 rfl (lv_at hl 2 rfl) ?_
        refine kl_cVi (C := RX5) (i := 26) (As := [.int (nI jj), .int (nI co)]) (rest := [.ref (B + 26)]) ⟨hx, hb, hml, hown, hts⟩ (c_X5_twice l G B _ (nI jj) co q26 q28 q29 (by omega) (by omega) (kl_nm1 (by omega))) (cwV 2 hts gX5_single_X5_twice rfl rfl rfl (by decide +kernel) ⟨Nat.le_of_ble_eq_true rfl, Nat.le_of_ble_eq_true rfl⟩) hK hP q26 rfl rfl hl.1 rfl (Nat.le_of_ble_eq_true rfl) dX5_single_33 ⟨Nat.le_of_ble_eq_true rfl, Nat.le_of_ble_eq_true rfl⟩ (fun r13 w11 H locs q12 hP => ?_)
        obtain ⟨rfl, hv14⟩ := q12
        refine kl_ifeq (tgt := 43) hx hb hv14 dX5_single_36 (by decide) (fun c36 => ?_) (fun c36 => ?_)
        · refine lv_iconst (v := nI 0) hx hb dX5_single_43 (by decide) ?_
          refine kl_put (C := RX5) (T := TX5) (N := 31) (ci := 5) (v := .int (nI 0)) (ty := .int) hx hb hts hinX5 tyX5 tyX5_ok nmX5 hown hK hP q26 rfl 0 (by decide) (hts (.fieldLink RX5 71 "KinLedgerModel" "code" "I") (by decide +kernel)) (fun _ h9 => h9) rfl (by decide +kernel) rfl rfl (Nat.le_of_ble_eq_true rfl) dX5_single_44 (fun w15 H locs f16 fr17 hzw15 hP => ?_)
          have f16 : w15 26 = some (.inr (5, [.int (nI 0), .int rs, .int (nI nT), .ref (B + 27), .int (nI n), .ref (B + 28), .ref (B + 29), .int (nI on), .ref (B + 30), .ref (B + 31), .ref (B + 32), .int (nI nL), .ref (B + 33), .ref (B + 34), .ref (B + 35), .ref (B + 36), .int (nI nS), .ref (B + 37), .ref (B + 38), .int (nI nC), .ref (B + 39), .ref (B + 40), .ref (B + 41), .int (nI nW), .ref (B + 42), .int hi, .ref (B + 43), .int (nI nM), .ref (B + 44), .ref (B + 45), .ref (B + 46)])) := f16
          have q27 : w15 27 = some (kl_aI G 4 ((fun t => nI (cn t)))) := (fr17 _ (by decide)).trans q27
          have q28 : w15 28 = some (kl_aI G 24 O) := (fr17 _ (by decide)).trans q28
          have q29 : w15 29 = some (kl_aI G 96 D) := (fr17 _ (by decide)).trans q29
          have q37 : w15 37 = some (kl_aI G 5 stb) := (fr17 _ (by decide)).trans q37
          have q38 : w15 38 = some (kl_aI G 5 ((fun t => nI (sco t)))) := (fr17 _ (by decide)).trans q38
          have frm : ∀ j : Nat, j ≠ 26 → j ≠ 37 → j ≠ 38 → w15 j = w j := fun j k0 k1 k2 => (fr17 j k0).trans (frm j k0 k1 k2)
          refine lv_aload_n hx hb dX5_single_47 rfl (lv_at hl 0 rfl) ?_
          refine lv_aload_n hx hb dX5_single_48 rfl (lv_at hl 0 rfl) ?_
          refine kl_get (C := RX5) (T := TX5) (N := 31) (ci := 5) hx hb hts hinX5 hown hK hP f16 rfl 0 (by decide) (hts (.fieldLink RX5 71 "KinLedgerModel" "code" "I") (by decide +kernel)) (fun _ h9 => h9) rfl dX5_single_49 ?_
          refine lv_iconst (v := nI 3) hx hb dX5_single_52 (by decide) ?_
          refine kl_ne (tgt := 67) hx hb (by omega) (by omega) dX5_single_53 (by decide) (fun c53 => ?_) (fun c53 => absurd c53 (by omega))
          refine lv_aload_n hx hb dX5_single_67 rfl (lv_at hl 0 rfl) ?_
          refine kl_get (C := RX5) (T := TX5) (N := 31) (ci := 5) hx hb hts hinX5 hown hK hP f16 rfl 1 (by decide) (hts (.fieldLink RX5 121 "KinLedgerModel" "reason" "I") (by decide +kernel)) (fun _ h9 => h9) rfl dX5_single_68 ?_
          refine kl_put (C := RX5) (T := TX5) (N := 31) (ci := 5) (v := .int rs) (ty := .int) hx hb hts hinX5 tyX5 tyX5_ok nmX5 hown hK hP f16 rfl 1 (by decide) (hts (.fieldLink RX5 121 "KinLedgerModel" "reason" "I") (by decide +kernel)) (fun _ h9 => h9) rfl (by decide +kernel) rfl rfl (Nat.le_of_ble_eq_true rfl) dX5_single_71 (fun w18 H locs f19 fr20 hzw18 hP => ?_)
          have f19 : w18 26 = some (.inr (5, [.int (nI 0), .int rs, .int (nI nT), .ref (B + 27), .int (nI n), .ref (B + 28), .ref (B + 29), .int (nI on), .ref (B + 30), .ref (B + 31), .ref (B + 32), .int (nI nL), .ref (B + 33), .ref (B + 34), .ref (B + 35), .ref (B + 36), .int (nI nS), .ref (B + 37), .ref (B + 38), .int (nI nC), .ref (B + 39), .ref (B + 40), .ref (B + 41), .int (nI nW), .ref (B + 42), .int hi, .ref (B + 43), .int (nI nM), .ref (B + 44), .ref (B + 45), .ref (B + 46)])) := f19
          have q27 : w18 27 = some (kl_aI G 4 ((fun t => nI (cn t)))) := (fr20 _ (by decide)).trans q27
          have q28 : w18 28 = some (kl_aI G 24 O) := (fr20 _ (by decide)).trans q28
          have q29 : w18 29 = some (kl_aI G 96 D) := (fr20 _ (by decide)).trans q29
          have q37 : w18 37 = some (kl_aI G 5 stb) := (fr20 _ (by decide)).trans q37
          have q38 : w18 38 = some (kl_aI G 5 ((fun t => nI (sco t)))) := (fr20 _ (by decide)).trans q38
          have frm : ∀ j : Nat, j ≠ 26 → j ≠ 37 → j ≠ 38 → w18 j = w j := fun j k0 k1 k2 => (fr20 j k0).trans (frm j k0 k1 k2)
          refine lv_aload_n hx hb dX5_single_74 rfl (lv_at hl 0 rfl) ?_
          refine kl_get (C := RX5) (T := TX5) (N := 31) (ci := 5) hx hb hts hinX5 hown hK hP f19 rfl 0 (by decide) (hts (.fieldLink RX5 71 "KinLedgerModel" "code" "I") (by decide +kernel)) (fun _ h9 => h9) rfl dX5_single_75 ?_
          refine kl_z_le (tgt := 83) hx hb (by omega) dX5_single_78 (by decide) (fun c78 => ?_) (fun c78 => absurd c78 (by omega))
          refine lv_aload_n hx hb dX5_single_83 rfl (lv_at hl 0 rfl) ?_
          refine kl_get (C := RX5) (T := TX5) (N := 31) (ci := 5) hx hb hts hinX5 hown hK hP f19 rfl 17 (by decide) (hts (.fieldLink RX5 41 "KinLedgerModel" "singleTable" "[I") (by decide +kernel)) (fun _ h9 => h9) rfl dX5_single_84 ?_
          refine lv_aload_n hx hb dX5_single_87 rfl (lv_at hl 0 rfl) ?_
          refine kl_get (C := RX5) (T := TX5) (N := 31) (ci := 5) hx hb hts hinX5 hown hK hP f19 rfl 16 (by decide) (hts (.fieldLink RX5 103 "KinLedgerModel" "singles" "I") (by decide +kernel)) (fun _ h9 => h9) rfl dX5_single_88 ?_
          refine lv_iload_n hx hb dX5_single_91 rfl (lv_at hl 1 rfl) ?_
          refine kl_iast hx hb hK hP q37 (by omega) (by omega) dX5_single_92 (fun w21 H locs f22 fr23 hzw21 hP => ?_)
          have f19 : w21 26 = some (.inr (5, [.int (nI 0), .int rs, .int (nI nT), .ref (B + 27), .int (nI n), .ref (B + 28), .ref (B + 29), .int (nI on), .ref (B + 30), .ref (B + 31), .ref (B + 32), .int (nI nL), .ref (B + 33), .ref (B + 34), .ref (B + 35), .ref (B + 36), .int (nI nS), .ref (B + 37), .ref (B + 38), .int (nI nC), .ref (B + 39), .ref (B + 40), .ref (B + 41), .int (nI nW), .ref (B + 42), .int hi, .ref (B + 43), .int (nI nM), .ref (B + 44), .ref (B + 45), .ref (B + 46)])) := (fr23 _ (by decide)).trans f19
          have q27 : w21 27 = some (kl_aI G 4 ((fun t => nI (cn t)))) := (fr23 _ (by decide)).trans q27
          have q28 : w21 28 = some (kl_aI G 24 O) := (fr23 _ (by decide)).trans q28
          have q29 : w21 29 = some (kl_aI G 96 D) := (fr23 _ (by decide)).trans q29
          have q38 : w21 38 = some (kl_aI G 5 ((fun t => nI (sco t)))) := (fr23 _ (by decide)).trans q38
          have frm : ∀ j : Nat, j ≠ 26 → j ≠ 37 → j ≠ 38 → w21 j = w j := fun j k0 k1 k2 => (fr23 j k1).trans (frm j k0 k1 k2)
          refine lv_aload_n hx hb dX5_single_93 rfl (lv_at hl 0 rfl) ?_
          refine kl_get (C := RX5) (T := TX5) (N := 31) (ci := 5) hx hb hts hinX5 hown hK hP f19 rfl 18 (by decide) (hts (.fieldLink RX5 44 "KinLedgerModel" "singleColumn" "[I") (by decide +kernel)) (fun _ h9 => h9) rfl dX5_single_94 ?_
          refine lv_aload_n hx hb dX5_single_97 rfl (lv_at hl 0 rfl) ?_
          refine kl_get (C := RX5) (T := TX5) (N := 31) (ci := 5) hx hb hts hinX5 hown hK hP f19 rfl 16 (by decide) (hts (.fieldLink RX5 103 "KinLedgerModel" "singles" "I") (by decide +kernel)) (fun _ h9 => h9) rfl dX5_single_98 ?_
          refine lv_iload_n hx hb dX5_single_101 rfl (lv_at hl 2 rfl) ?_
          refine kl_iast hx hb hK hP q38 (by omega) (by omega) dX5_single_102 (fun w24 H locs f25 fr26 hzw24 hP => ?_)
          rw [kl_nup_upd] at f25
          have f19 : w24 26 = some (.inr (5, [.int (nI 0), .int rs, .int (nI nT), .ref (B + 27), .int (nI n), .ref (B + 28), .ref (B + 29), .int (nI on), .ref (B + 30), .ref (B + 31), .ref (B + 32), .int (nI nL), .ref (B + 33), .ref (B + 34), .ref (B + 35), .ref (B + 36), .int (nI nS), .ref (B + 37), .ref (B + 38), .int (nI nC), .ref (B + 39), .ref (B + 40), .ref (B + 41), .int (nI nW), .ref (B + 42), .int hi, .ref (B + 43), .int (nI nM), .ref (B + 44), .ref (B + 45), .ref (B + 46)])) := (fr26 _ (by decide)).trans f19
          have q27 : w24 27 = some (kl_aI G 4 ((fun t => nI (cn t)))) := (fr26 _ (by decide)).trans q27
          have q28 : w24 28 = some (kl_aI G 24 O) := (fr26 _ (by decide)).trans q28
          have q29 : w24 29 = some (kl_aI G 96 D) := (fr26 _ (by decide)).trans q29
          have f22 : w24 37 = some (kl_aI G 5 (upd stb nS (nI jj))) := (fr26 _ (by decide)).trans f22
          have frm : ∀ j : Nat, j ≠ 26 → j ≠ 37 → j ≠ 38 → w24 j = w j := fun j k0 k1 k2 => (fr26 j k2).trans (frm j k0 k1 k2)
          refine lv_aload_n hx hb dX5_single_103 rfl (lv_at hl 0 rfl) ?_
          refine lv_dup hx hb dX5_single_104 rfl ?_
          refine kl_get (C := RX5) (T := TX5) (N := 31) (ci := 5) hx hb hts hinX5 hown hK hP f19 rfl 16 (by decide) (hts (.fieldLink RX5 103 "KinLedgerModel" "singles" "I") (by decide +kernel)) (fun _ h9 => h9) rfl dX5_single_105 ?_
          refine lv_iconst (v := nI 1) hx hb dX5_single_108 (by decide) ?_
          refine lv_iadd hx hb dX5_single_109 ?_
          refine kl_top (z := nI (nS + 1)) (by first | exact nI_add _ _ | (rw [nI_add]; first | rfl | (congr 1; omega))) ?_
          refine kl_put (C := RX5) (T := TX5) (N := 31) (ci := 5) (v := .int (nI (nS + 1))) (ty := .int) hx hb hts hinX5 tyX5 tyX5_ok nmX5 hown hK hP f19 rfl 16 (by decide) (hts (.fieldLink RX5 103 "KinLedgerModel" "singles" "I") (by decide +kernel)) (fun _ h9 => h9) rfl (by decide +kernel) rfl rfl (Nat.le_of_ble_eq_true rfl) dX5_single_110 (fun w27 H locs f28 fr29 hzw27 hP => ?_)
          have f28 : w27 26 = some (.inr (5, [.int (nI 0), .int rs, .int (nI nT), .ref (B + 27), .int (nI n), .ref (B + 28), .ref (B + 29), .int (nI on), .ref (B + 30), .ref (B + 31), .ref (B + 32), .int (nI nL), .ref (B + 33), .ref (B + 34), .ref (B + 35), .ref (B + 36), .int (nI (nS + 1)), .ref (B + 37), .ref (B + 38), .int (nI nC), .ref (B + 39), .ref (B + 40), .ref (B + 41), .int (nI nW), .ref (B + 42), .int hi, .ref (B + 43), .int (nI nM), .ref (B + 44), .ref (B + 45), .ref (B + 46)])) := f28
          have q27 : w27 27 = some (kl_aI G 4 ((fun t => nI (cn t)))) := (fr29 _ (by decide)).trans q27
          have q28 : w27 28 = some (kl_aI G 24 O) := (fr29 _ (by decide)).trans q28
          have q29 : w27 29 = some (kl_aI G 96 D) := (fr29 _ (by decide)).trans q29
          have f22 : w27 37 = some (kl_aI G 5 (upd stb nS (nI jj))) := (fr29 _ (by decide)).trans f22
          have f25 : w27 38 = some (kl_aI G 5 ((fun t => nI ((kl_nup sco nS co) t)))) := (fr29 _ (by decide)).trans f25
          have frm : ∀ j : Nat, j ≠ 26 → j ≠ 37 → j ≠ 38 → w27 j = w j := fun j k0 k1 k2 => (fr29 j k0).trans (frm j k0 k1 k2)
          refine lv_aload_n hx hb dX5_single_113 rfl (lv_at hl 0 rfl) ?_
          refine kl_get (C := RX5) (T := TX5) (N := 31) (ci := 5) hx hb hts hinX5 hown hK hP f28 rfl 16 (by decide) (hts (.fieldLink RX5 103 "KinLedgerModel" "singles" "I") (by decide +kernel)) (fun _ h9 => h9) rfl dX5_single_114 ?_
          refine lv_iconst (v := nI 1) hx hb dX5_single_117 (by decide) ?_
          refine lv_isub hx hb dX5_single_118 ?_
          refine kl_top (z := nI nS) (by first | exact pk_sub (by omega) | (rw [pk_sub (by omega)]; congr 1; omega)) ?_
          exact kl_iret hx hb hr hlocks hP (Or.inr (Or.inr (Or.inr (⟨hok, by omega, rfl, co, rfl, hco0, by omega, c36, f28, ⟨_, _, f22, f25, fun j hj => ⟨pk_un (by omega), kl_nup_n (by omega)⟩, pk_us, kl_nup_s⟩, frm⟩)))) dX5_single_119
        · refine lv_iconst (v := nI 3) hx hb dX5_single_39 (by decide) ?_
          refine lv_goto (tgt := 44) hx hb dX5_single_40 (by decide) ?_
          refine kl_put (C := RX5) (T := TX5) (N := 31) (ci := 5) (v := .int (nI 3)) (ty := .int) hx hb hts hinX5 tyX5 tyX5_ok nmX5 hown hK hP q26 rfl 0 (by decide) (hts (.fieldLink RX5 71 "KinLedgerModel" "code" "I") (by decide +kernel)) (fun _ h9 => h9) rfl (by decide +kernel) rfl rfl (Nat.le_of_ble_eq_true rfl) dX5_single_44 (fun w30 H locs f31 fr32 hzw30 hP => ?_)
          have f31 : w30 26 = some (.inr (5, [.int (nI 3), .int rs, .int (nI nT), .ref (B + 27), .int (nI n), .ref (B + 28), .ref (B + 29), .int (nI on), .ref (B + 30), .ref (B + 31), .ref (B + 32), .int (nI nL), .ref (B + 33), .ref (B + 34), .ref (B + 35), .ref (B + 36), .int (nI nS), .ref (B + 37), .ref (B + 38), .int (nI nC), .ref (B + 39), .ref (B + 40), .ref (B + 41), .int (nI nW), .ref (B + 42), .int hi, .ref (B + 43), .int (nI nM), .ref (B + 44), .ref (B + 45), .ref (B + 46)])) := f31
          have q27 : w30 27 = some (kl_aI G 4 ((fun t => nI (cn t)))) := (fr32 _ (by decide)).trans q27
          have q28 : w30 28 = some (kl_aI G 24 O) := (fr32 _ (by decide)).trans q28
          have q29 : w30 29 = some (kl_aI G 96 D) := (fr32 _ (by decide)).trans q29
          have q37 : w30 37 = some (kl_aI G 5 stb) := (fr32 _ (by decide)).trans q37
          have q38 : w30 38 = some (kl_aI G 5 ((fun t => nI (sco t)))) := (fr32 _ (by decide)).trans q38
          have frm : ∀ j : Nat, j ≠ 26 → j ≠ 37 → j ≠ 38 → w30 j = w j := fun j k0 k1 k2 => (fr32 j k0).trans (frm j k0 k1 k2)
          refine lv_aload_n hx hb dX5_single_47 rfl (lv_at hl 0 rfl) ?_
          refine lv_aload_n hx hb dX5_single_48 rfl (lv_at hl 0 rfl) ?_
          refine kl_get (C := RX5) (T := TX5) (N := 31) (ci := 5) hx hb hts hinX5 hown hK hP f31 rfl 0 (by decide) (hts (.fieldLink RX5 71 "KinLedgerModel" "code" "I") (by decide +kernel)) (fun _ h9 => h9) rfl dX5_single_49 ?_
          refine lv_iconst (v := nI 3) hx hb dX5_single_52 (by decide) ?_
          refine kl_ne (tgt := 67) hx hb (by omega) (by omega) dX5_single_53 (by decide) (fun c53 => absurd c53 (by omega)) (fun c53 => ?_)
          refine lv_sipush (v := nI 300) hx hb dX5_single_56 (by decide) ?_
          refine lv_aload_n hx hb dX5_single_59 rfl (lv_at hl 0 rfl) ?_
          refine kl_get (C := RX5) (T := TX5) (N := 31) (ci := 5) hx hb hts hinX5 hown hK hP f31 rfl 16 (by decide) (hts (.fieldLink RX5 103 "KinLedgerModel" "singles" "I") (by decide +kernel)) (fun _ h9 => h9) rfl dX5_single_60 ?_
          refine lv_iadd hx hb dX5_single_63 ?_
          refine kl_top (z := nI (300 + nS)) (by first | exact nI_add _ _ | (rw [nI_add]; first | rfl | (congr 1; omega))) ?_
          refine lv_goto (tgt := 71) hx hb dX5_single_64 (by decide) ?_
          refine kl_put (C := RX5) (T := TX5) (N := 31) (ci := 5) (v := .int (nI (300 + nS))) (ty := .int) hx hb hts hinX5 tyX5 tyX5_ok nmX5 hown hK hP f31 rfl 1 (by decide) (hts (.fieldLink RX5 121 "KinLedgerModel" "reason" "I") (by decide +kernel)) (fun _ h9 => h9) rfl (by decide +kernel) rfl rfl (Nat.le_of_ble_eq_true rfl) dX5_single_71 (fun w33 H locs f34 fr35 hzw33 hP => ?_)
          have f34 : w33 26 = some (.inr (5, [.int (nI 3), .int (nI (300 + nS)), .int (nI nT), .ref (B + 27), .int (nI n), .ref (B + 28), .ref (B + 29), .int (nI on), .ref (B + 30), .ref (B + 31), .ref (B + 32), .int (nI nL), .ref (B + 33), .ref (B + 34), .ref (B + 35), .ref (B + 36), .int (nI nS), .ref (B + 37), .ref (B + 38), .int (nI nC), .ref (B + 39), .ref (B + 40), .ref (B + 41), .int (nI nW), .ref (B + 42), .int hi, .ref (B + 43), .int (nI nM), .ref (B + 44), .ref (B + 45), .ref (B + 46)])) := f34
          have q27 : w33 27 = some (kl_aI G 4 ((fun t => nI (cn t)))) := (fr35 _ (by decide)).trans q27
          have q28 : w33 28 = some (kl_aI G 24 O) := (fr35 _ (by decide)).trans q28
          have q29 : w33 29 = some (kl_aI G 96 D) := (fr35 _ (by decide)).trans q29
          have q37 : w33 37 = some (kl_aI G 5 stb) := (fr35 _ (by decide)).trans q37
          have q38 : w33 38 = some (kl_aI G 5 ((fun t => nI (sco t)))) := (fr35 _ (by decide)).trans q38
          have frm : ∀ j : Nat, j ≠ 26 → j ≠ 37 → j ≠ 38 → w33 j = w j := fun j k0 k1 k2 => (fr35 j k0).trans (frm j k0 k1 k2)
          refine lv_aload_n hx hb dX5_single_74 rfl (lv_at hl 0 rfl) ?_
          refine kl_get (C := RX5) (T := TX5) (N := 31) (ci := 5) hx hb hts hinX5 hown hK hP f34 rfl 0 (by decide) (hts (.fieldLink RX5 71 "KinLedgerModel" "code" "I") (by decide +kernel)) (fun _ h9 => h9) rfl dX5_single_75 ?_
          refine kl_z_le (tgt := 83) hx hb (by omega) dX5_single_78 (by decide) (fun c78 => absurd c78 (by omega)) (fun c78 => ?_)
          refine lv_iconst (v := nI 0) hx hb dX5_single_81 (by decide) ?_
          exact kl_iret hx hb hr hlocks hP (Or.inr (Or.inr (Or.inl (⟨hok, by omega, co, rfl, by omega, c36, f34, ⟨_, _, q37, q38, fun j hj => ⟨rfl, rfl⟩⟩, frm⟩)))) dX5_single_82
      · refine lv_iconst (v := nI 2) hx hb dX5_single_26 (by decide) ?_
        refine lv_goto (tgt := 44) hx hb dX5_single_27 (by decide) ?_
        refine kl_put (C := RX5) (T := TX5) (N := 31) (ci := 5) (v := .int (nI 2)) (ty := .int) hx hb hts hinX5 tyX5 tyX5_ok nmX5 hown hK hP q26 rfl 0 (by decide) (hts (.fieldLink RX5 71 "KinLedgerModel" "code" "I") (by decide +kernel)) (fun _ h9 => h9) rfl (by decide +kernel) rfl rfl (Nat.le_of_ble_eq_true rfl) dX5_single_44 (fun w36 H locs f37 fr38 hzw36 hP => ?_)
        have f37 : w36 26 = some (.inr (5, [.int (nI 2), .int rs, .int (nI nT), .ref (B + 27), .int (nI n), .ref (B + 28), .ref (B + 29), .int (nI on), .ref (B + 30), .ref (B + 31), .ref (B + 32), .int (nI nL), .ref (B + 33), .ref (B + 34), .ref (B + 35), .ref (B + 36), .int (nI nS), .ref (B + 37), .ref (B + 38), .int (nI nC), .ref (B + 39), .ref (B + 40), .ref (B + 41), .int (nI nW), .ref (B + 42), .int hi, .ref (B + 43), .int (nI nM), .ref (B + 44), .ref (B + 45), .ref (B + 46)])) := f37
        have q27 : w36 27 = some (kl_aI G 4 ((fun t => nI (cn t)))) := (fr38 _ (by decide)).trans q27
        have q28 : w36 28 = some (kl_aI G 24 O) := (fr38 _ (by decide)).trans q28
        have q29 : w36 29 = some (kl_aI G 96 D) := (fr38 _ (by decide)).trans q29
        have q37 : w36 37 = some (kl_aI G 5 stb) := (fr38 _ (by decide)).trans q37
        have q38 : w36 38 = some (kl_aI G 5 ((fun t => nI (sco t)))) := (fr38 _ (by decide)).trans q38
        have frm : ∀ j : Nat, j ≠ 26 → j ≠ 37 → j ≠ 38 → w36 j = w j := fun j k0 k1 k2 => (fr38 j k0).trans (frm j k0 k1 k2)
        refine lv_aload_n hx hb dX5_single_47 rfl (lv_at hl 0 rfl) ?_
        refine lv_aload_n hx hb dX5_single_48 rfl (lv_at hl 0 rfl) ?_
        refine kl_get (C := RX5) (T := TX5) (N := 31) (ci := 5) hx hb hts hinX5 hown hK hP f37 rfl 0 (by decide) (hts (.fieldLink RX5 71 "KinLedgerModel" "code" "I") (by decide +kernel)) (fun _ h9 => h9) rfl dX5_single_49 ?_
        refine lv_iconst (v := nI 3) hx hb dX5_single_52 (by decide) ?_
        refine kl_ne (tgt := 67) hx hb (by omega) (by omega) dX5_single_53 (by decide) (fun c53 => ?_) (fun c53 => absurd c53 (by omega))
        refine lv_aload_n hx hb dX5_single_67 rfl (lv_at hl 0 rfl) ?_
        refine kl_get (C := RX5) (T := TX5) (N := 31) (ci := 5) hx hb hts hinX5 hown hK hP f37 rfl 1 (by decide) (hts (.fieldLink RX5 121 "KinLedgerModel" "reason" "I") (by decide +kernel)) (fun _ h9 => h9) rfl dX5_single_68 ?_
        refine kl_put (C := RX5) (T := TX5) (N := 31) (ci := 5) (v := .int rs) (ty := .int) hx hb hts hinX5 tyX5 tyX5_ok nmX5 hown hK hP f37 rfl 1 (by decide) (hts (.fieldLink RX5 121 "KinLedgerModel" "reason" "I") (by decide +kernel)) (fun _ h9 => h9) rfl (by decide +kernel) rfl rfl (Nat.le_of_ble_eq_true rfl) dX5_single_71 (fun w39 H locs f40 fr41 hzw39 hP => ?_)
        have f40 : w39 26 = some (.inr (5, [.int (nI 2), .int rs, .int (nI nT), .ref (B + 27), .int (nI n), .ref (B + 28), .ref (B + 29), .int (nI on), .ref (B + 30), .ref (B + 31), .ref (B + 32), .int (nI nL), .ref (B + 33), .ref (B + 34), .ref (B + 35), .ref (B + 36), .int (nI nS), .ref (B + 37), .ref (B + 38), .int (nI nC), .ref (B + 39), .ref (B + 40), .ref (B + 41), .int (nI nW), .ref (B + 42), .int hi, .ref (B + 43), .int (nI nM), .ref (B + 44), .ref (B + 45), .ref (B + 46)])) := f40
        have q27 : w39 27 = some (kl_aI G 4 ((fun t => nI (cn t)))) := (fr41 _ (by decide)).trans q27
        have q28 : w39 28 = some (kl_aI G 24 O) := (fr41 _ (by decide)).trans q28
        have q29 : w39 29 = some (kl_aI G 96 D) := (fr41 _ (by decide)).trans q29
        have q37 : w39 37 = some (kl_aI G 5 stb) := (fr41 _ (by decide)).trans q37
        have q38 : w39 38 = some (kl_aI G 5 ((fun t => nI (sco t)))) := (fr41 _ (by decide)).trans q38
        have frm : ∀ j : Nat, j ≠ 26 → j ≠ 37 → j ≠ 38 → w39 j = w j := fun j k0 k1 k2 => (fr41 j k0).trans (frm j k0 k1 k2)
        refine lv_aload_n hx hb dX5_single_74 rfl (lv_at hl 0 rfl) ?_
        refine kl_get (C := RX5) (T := TX5) (N := 31) (ci := 5) hx hb hts hinX5 hown hK hP f40 rfl 0 (by decide) (hts (.fieldLink RX5 71 "KinLedgerModel" "code" "I") (by decide +kernel)) (fun _ h9 => h9) rfl dX5_single_75 ?_
        refine kl_z_le (tgt := 83) hx hb (by omega) dX5_single_78 (by decide) (fun c78 => absurd c78 (by omega)) (fun c78 => ?_)
        refine lv_iconst (v := nI 0) hx hb dX5_single_81 (by decide) ?_
        exact kl_iret hx hb hr hlocks hP (Or.inr (Or.inl (⟨hok, by omega, f40, ⟨_, _, q37, q38, fun j hj => ⟨rfl, rfl⟩⟩, frm⟩))) dX5_single_82
    · refine lv_iconst (v := nI 1) hx hb dX5_single_14 (by decide) ?_
      refine lv_goto (tgt := 44) hx hb dX5_single_15 (by decide) ?_
      refine kl_put (C := RX5) (T := TX5) (N := 31) (ci := 5) (v := .int (nI 1)) (ty := .int) hx hb hts hinX5 tyX5 tyX5_ok nmX5 hown hK hP q26 rfl 0 (by decide) (hts (.fieldLink RX5 71 "KinLedgerModel" "code" "I") (by decide +kernel)) (fun _ h9 => h9) rfl (by decide +kernel) rfl rfl (Nat.le_of_ble_eq_true rfl) dX5_single_44 (fun w42 H locs f43 fr44 hzw42 hP => ?_)
      have f43 : w42 26 = some (.inr (5, [.int (nI 1), .int rs, .int (nI nT), .ref (B + 27), .int (nI n), .ref (B + 28), .ref (B + 29), .int (nI on), .ref (B + 30), .ref (B + 31), .ref (B + 32), .int (nI nL), .ref (B + 33), .ref (B + 34), .ref (B + 35), .ref (B + 36), .int (nI nS), .ref (B + 37), .ref (B + 38), .int (nI nC), .ref (B + 39), .ref (B + 40), .ref (B + 41), .int (nI nW), .ref (B + 42), .int hi, .ref (B + 43), .int (nI nM), .ref (B + 44), .ref (B + 45), .ref (B + 46)])) := f43
      have q27 : w42 27 = some (kl_aI G 4 ((fun t => nI (cn t)))) := (fr44 _ (by decide)).trans q27
      have q28 : w42 28 = some (kl_aI G 24 O) := (fr44 _ (by decide)).trans q28
      have q29 : w42 29 = some (kl_aI G 96 D) := (fr44 _ (by decide)).trans q29
      have q37 : w42 37 = some (kl_aI G 5 stb) := (fr44 _ (by decide)).trans q37
      have q38 : w42 38 = some (kl_aI G 5 ((fun t => nI (sco t)))) := (fr44 _ (by decide)).trans q38
      have frm : ∀ j : Nat, j ≠ 26 → j ≠ 37 → j ≠ 38 → w42 j = w j := fun j k0 k1 k2 => (fr44 j k0).trans (frm j k0 k1 k2)
      refine lv_aload_n hx hb dX5_single_47 rfl (lv_at hl 0 rfl) ?_
      refine lv_aload_n hx hb dX5_single_48 rfl (lv_at hl 0 rfl) ?_
      refine kl_get (C := RX5) (T := TX5) (N := 31) (ci := 5) hx hb hts hinX5 hown hK hP f43 rfl 0 (by decide) (hts (.fieldLink RX5 71 "KinLedgerModel" "code" "I") (by decide +kernel)) (fun _ h9 => h9) rfl dX5_single_49 ?_
      refine lv_iconst (v := nI 3) hx hb dX5_single_52 (by decide) ?_
      refine kl_ne (tgt := 67) hx hb (by omega) (by omega) dX5_single_53 (by decide) (fun c53 => ?_) (fun c53 => absurd c53 (by omega))
      refine lv_aload_n hx hb dX5_single_67 rfl (lv_at hl 0 rfl) ?_
      refine kl_get (C := RX5) (T := TX5) (N := 31) (ci := 5) hx hb hts hinX5 hown hK hP f43 rfl 1 (by decide) (hts (.fieldLink RX5 121 "KinLedgerModel" "reason" "I") (by decide +kernel)) (fun _ h9 => h9) rfl dX5_single_68 ?_
      refine kl_put (C := RX5) (T := TX5) (N := 31) (ci := 5) (v := .int rs) (ty := .int) hx hb hts hinX5 tyX5 tyX5_ok nmX5 hown hK hP f43 rfl 1 (by decide) (hts (.fieldLink RX5 121 "KinLedgerModel" "reason" "I") (by decide +kernel)) (fun _ h9 => h9) rfl (by decide +kernel) rfl rfl (Nat.le_of_ble_eq_true rfl) dX5_single_71 (fun w45 H locs f46 fr47 hzw45 hP => ?_)
      have f46 : w45 26 = some (.inr (5, [.int (nI 1), .int rs, .int (nI nT), .ref (B + 27), .int (nI n), .ref (B + 28), .ref (B + 29), .int (nI on), .ref (B + 30), .ref (B + 31), .ref (B + 32), .int (nI nL), .ref (B + 33), .ref (B + 34), .ref (B + 35), .ref (B + 36), .int (nI nS), .ref (B + 37), .ref (B + 38), .int (nI nC), .ref (B + 39), .ref (B + 40), .ref (B + 41), .int (nI nW), .ref (B + 42), .int hi, .ref (B + 43), .int (nI nM), .ref (B + 44), .ref (B + 45), .ref (B + 46)])) := f46
      have q27 : w45 27 = some (kl_aI G 4 ((fun t => nI (cn t)))) := (fr47 _ (by decide)).trans q27
      have q28 : w45 28 = some (kl_aI G 24 O) := (fr47 _ (by decide)).trans q28
      have q29 : w45 29 = some (kl_aI G 96 D) := (fr47 _ (by decide)).trans q29
      have q37 : w45 37 = some (kl_aI G 5 stb) := (fr47 _ (by decide)).trans q37
      have q38 : w45 38 = some (kl_aI G 5 ((fun t => nI (sco t)))) := (fr47 _ (by decide)).trans q38
      have frm : ∀ j : Nat, j ≠ 26 → j ≠ 37 → j ≠ 38 → w45 j = w j := fun j k0 k1 k2 => (fr47 j k0).trans (frm j k0 k1 k2)
      refine lv_aload_n hx hb dX5_single_74 rfl (lv_at hl 0 rfl) ?_
      refine kl_get (C := RX5) (T := TX5) (N := 31) (ci := 5) hx hb hts hinX5 hown hK hP f46 rfl 0 (by decide) (hts (.fieldLink RX5 71 "KinLedgerModel" "code" "I") (by decide +kernel)) (fun _ h9 => h9) rfl dX5_single_75 ?_
      refine kl_z_le (tgt := 83) hx hb (by omega) dX5_single_78 (by decide) (fun c78 => absurd c78 (by omega)) (fun c78 => ?_)
      refine lv_iconst (v := nI 0) hx hb dX5_single_81 (by decide) ?_
      exact kl_iret hx hb hr hlocks hP (Or.inl (⟨fun z => z.2 c11, f46, ⟨_, _, q37, q38, fun j hj => ⟨rfl, rfl⟩⟩, frm⟩)) dX5_single_82

abbrev rm_X5_word : Room := { frames := 0, cells := 0, slots := 0, locals := 0 }
set_option maxHeartbeats 4000000 in
set_option maxRecDepth 100000 in
theorem c_X5_word (l : Launch) (G : kl_G) (B : Nat) (w : kl_M) {nT nL nS nC nW nM n on : Nat} {ec rs hi : Int32} {wt : Nat → Nat} (x : Int32) (q26 : w 26 = some (.inr (5, [.int ec, .int rs, .int (nI nT), .ref (B + 27), .int (nI n), .ref (B + 28), .ref (B + 29), .int (nI on), .ref (B + 30), .ref (B + 31), .ref (B + 32), .int (nI nL), .ref (B + 33), .ref (B + 34), .ref (B + 35), .ref (B + 36), .int (nI nS), .ref (B + 37), .ref (B + 38), .int (nI nC), .ref (B + 39), .ref (B + 40), .ref (B + 41), .int (nI nW), .ref (B + 42), .int hi, .ref (B + 43), .int (nI nM), .ref (B + 44), .ref (B + 45), .ref (B + 46)]))) (q42 : w 42 = some (kl_aI G 10 ((fun t => nI (wt t))))) (hn : nW ≤ 10) : Met l yX5_word wsX5_word rm_X5_word (kl_Pc G B w [.ref (B + 26), .int x]) (kl_Qi G B (fun r w1 => (¬ mt_word x ∧ w1 26 = some (.inr (5, [.int (nI 1), .int rs, .int (nI nT), .ref (B + 27), .int (nI n), .ref (B + 28), .ref (B + 29), .int (nI on), .ref (B + 30), .ref (B + 31), .ref (B + 32), .int (nI nL), .ref (B + 33), .ref (B + 34), .ref (B + 35), .ref (B + 36), .int (nI nS), .ref (B + 37), .ref (B + 38), .int (nI nC), .ref (B + 39), .ref (B + 40), .ref (B + 41), .int (nI nW), .ref (B + 42), .int hi, .ref (B + 43), .int (nI nM), .ref (B + 44), .ref (B + 45), .ref (B + 46)])) ∧ w1 42 = some (kl_aI G 10 ((fun t => nI (wt t)))) ∧ ∀ j : Nat, j ≠ 26 → j ≠ 42 → w1 j = w j) ∨ (mt_word x ∧ ¬ nW < 10 ∧ w1 26 = some (.inr (5, [.int (nI 2), .int rs, .int (nI nT), .ref (B + 27), .int (nI n), .ref (B + 28), .ref (B + 29), .int (nI on), .ref (B + 30), .ref (B + 31), .ref (B + 32), .int (nI nL), .ref (B + 33), .ref (B + 34), .ref (B + 35), .ref (B + 36), .int (nI nS), .ref (B + 37), .ref (B + 38), .int (nI nC), .ref (B + 39), .ref (B + 40), .ref (B + 41), .int (nI nW), .ref (B + 42), .int hi, .ref (B + 43), .int (nI nM), .ref (B + 44), .ref (B + 45), .ref (B + 46)])) ∧ w1 42 = some (kl_aI G 10 ((fun t => nI (wt t)))) ∧ ∀ j : Nat, j ≠ 26 → j ≠ 42 → w1 j = w j) ∨ (mt_word x ∧ nW < 10 ∧ r = nI (nW + 1) ∧ w1 26 = some (.inr (5, [.int (nI 0), .int rs, .int (nI nT), .ref (B + 27), .int (nI n), .ref (B + 28), .ref (B + 29), .int (nI on), .ref (B + 30), .ref (B + 31), .ref (B + 32), .int (nI nL), .ref (B + 33), .ref (B + 34), .ref (B + 35), .ref (B + 36), .int (nI nS), .ref (B + 37), .ref (B + 38), .int (nI nC), .ref (B + 39), .ref (B + 40), .ref (B + 41), .int (nI (nW + 1)), .ref (B + 42), .int hi, .ref (B + 43), .int (nI nM), .ref (B + 44), .ref (B + 45), .ref (B + 46)])) ∧ (∃ k, x = nI k ∧ mt_wok k ∧ w1 42 = some (kl_aI G 10 (fun t => nI (kl_nup wt nW k t)))) ∧ ∀ j : Nat, j ≠ 26 → j ≠ 42 → w1 j = w j))) 0 0 (kl_fr B) := by
  refine Met.ofW (cc := cX5_word) (maxL := 3) (ret := (some .int)) (by decide) rfl ?_
  intro pg e s m args below meth cd s₁ Bd hml hv
  obtain ⟨rfl, hP0, hK⟩ := hv
  have hx := Bd.exec
  have hb := Bd.bytes
  have hr := Bd.returns
  have hts := atoms_spec (ws := wsX5_word) Bd.pre
  have hown : s.vm.findClass RX5 = some m.cls := findClass_of_methodNamed Bd.named
  have hlocks := Bd.notSynchronized
  have hinX5 : ∀ w ∈ u_ws RX5 TX5 31, w ∈ wsX5_word := by decide +kernel
  have hP := kl_S.rf hP0
  have hl := lv_entry ([.ref (B + 26), .int x]) (n := 3) (Nat.le_of_ble_eq_true rfl)
  rw [lg_entry_eq]
  generalize (lg_sl ([.ref (B + 26), .int x]) ++ List.replicate (3 - (lg_sl ([.ref (B + 26), .int x])).length) Slot.unset).toArray = ls at hl ⊢
  have hl : lv_has ls 3 [(0, .ref (B + 26)), (1, .int x)] := hl
  have frm : ∀ j : Nat, j ≠ 26 → j ≠ 42 → w j = w j := fun j _ _ => rfl
  refine lv_iload_n hx hb dX5_word_0 rfl (lv_at hl 1 rfl) ?_
  refine lv_if_lt (tgt := 9) hx hb dX5_word_1 (by decide) (fun c1 => ?_) (fun c1 => ?_)
  · refine lv_iload_n hx hb dX5_word_9 rfl (lv_at hl 1 rfl) ?_
    refine lv_bipush (v := nI 10) hx hb dX5_word_10 (by decide) ?_
    refine lv_icmp_lt (tgt := 21) hx hb dX5_word_12 (by decide) (fun c12 => ?_) (fun c12 => ?_)
    · refine lv_iload_n hx hb dX5_word_21 rfl (lv_at hl 1 rfl) ?_
      refine lv_bipush (v := nI 100) hx hb dX5_word_22 (by decide) ?_
      refine lv_icmp_lt (tgt := 38) hx hb dX5_word_24 (by decide) (fun c24 => ?_) (fun c24 => ?_)
      · have hnk : ¬ mt_word x := by unfold mt_word; grind
        refine lv_iconst (v := nI 0) hx hb dX5_word_38 (by decide) ?_
        refine lv_istore_n (lv' := [(2, .int (nI 0)), (0, .ref (B + 26)), (1, .int x)]) hx hb dX5_word_39 rfl hl (by decide) rfl (fun ls hl => ?_)
        refine lv_aload_n hx hb dX5_word_40 rfl (lv_at hl 1 rfl) ?_
        refine lv_iload_n hx hb dX5_word_41 rfl (lv_at hl 0 rfl) ?_
        refine kl_z_ne (tgt := 49) hx hb (by omega) dX5_word_42 (by decide) (fun c42 => absurd c42 (by omega)) (fun c42 => ?_)
        refine lv_iconst (v := nI 1) hx hb dX5_word_45 (by decide) ?_
        refine lv_goto (tgt := 63) hx hb dX5_word_46 (by decide) ?_
        refine kl_put (C := RX5) (T := TX5) (N := 31) (ci := 5) (v := .int (nI 1)) (ty := .int) hx hb hts hinX5 tyX5 tyX5_ok nmX5 hown hK hP q26 rfl 0 (by decide) (hts (.fieldLink RX5 71 "KinLedgerModel" "code" "I") (by decide +kernel)) (fun _ h9 => h9) rfl (by decide +kernel) rfl rfl (Nat.le_of_ble_eq_true rfl) dX5_word_63 (fun w1 H locs f2 fr3 hzw1 hP => ?_)
        have f2 : w1 26 = some (.inr (5, [.int (nI 1), .int rs, .int (nI nT), .ref (B + 27), .int (nI n), .ref (B + 28), .ref (B + 29), .int (nI on), .ref (B + 30), .ref (B + 31), .ref (B + 32), .int (nI nL), .ref (B + 33), .ref (B + 34), .ref (B + 35), .ref (B + 36), .int (nI nS), .ref (B + 37), .ref (B + 38), .int (nI nC), .ref (B + 39), .ref (B + 40), .ref (B + 41), .int (nI nW), .ref (B + 42), .int hi, .ref (B + 43), .int (nI nM), .ref (B + 44), .ref (B + 45), .ref (B + 46)])) := f2
        have q42 : w1 42 = some (kl_aI G 10 ((fun t => nI (wt t)))) := (fr3 _ (by decide)).trans q42
        have frm : ∀ j : Nat, j ≠ 26 → j ≠ 42 → w1 j = w j := fun j k0 k1 => (fr3 j k0).trans (frm j k0 k1)
        refine lv_aload_n hx hb dX5_word_66 rfl (lv_at hl 1 rfl) ?_
        refine kl_get (C := RX5) (T := TX5) (N := 31) (ci := 5) hx hb hts hinX5 hown hK hP f2 rfl 0 (by decide) (hts (.fieldLink RX5 71 "KinLedgerModel" "code" "I") (by decide +kernel)) (fun _ h9 => h9) rfl dX5_word_67 ?_
        refine kl_z_le (tgt := 75) hx hb (by omega) dX5_word_70 (by decide) (fun c70 => absurd c70 (by omega)) (fun c70 => ?_)
        refine lv_iconst (v := nI 0) hx hb dX5_word_73 (by decide) ?_
        exact kl_iret hx hb hr hlocks hP (Or.inl (⟨hnk, f2, q42, frm⟩)) dX5_word_74
      · refine lv_iload_n hx hb dX5_word_27 rfl (lv_at hl 1 rfl) ?_
        refine lv_sipush (v := nI 300) hx hb dX5_word_28 (by decide) ?_
        refine lv_icmp_gt (tgt := 38) hx hb dX5_word_31 (by decide) (fun c31 => ?_) (fun c31 => ?_)
        · have hnk : ¬ mt_word x := by unfold mt_word; grind
          refine lv_iconst (v := nI 0) hx hb dX5_word_38 (by decide) ?_
          refine lv_istore_n (lv' := [(2, .int (nI 0)), (0, .ref (B + 26)), (1, .int x)]) hx hb dX5_word_39 rfl hl (by decide) rfl (fun ls hl => ?_)
          refine lv_aload_n hx hb dX5_word_40 rfl (lv_at hl 1 rfl) ?_
          refine lv_iload_n hx hb dX5_word_41 rfl (lv_at hl 0 rfl) ?_
          refine kl_z_ne (tgt := 49) hx hb (by omega) dX5_word_42 (by decide) (fun c42 => absurd c42 (by omega)) (fun c42 => ?_)
          refine lv_iconst (v := nI 1) hx hb dX5_word_45 (by decide) ?_
          refine lv_goto (tgt := 63) hx hb dX5_word_46 (by decide) ?_
          refine kl_put (C := RX5) (T := TX5) (N := 31) (ci := 5) (v := .int (nI 1)) (ty := .int) hx hb hts hinX5 tyX5 tyX5_ok nmX5 hown hK hP q26 rfl 0 (by decide) (hts (.fieldLink RX5 71 "KinLedgerModel" "code" "I") (by decide +kernel)) (fun _ h9 => h9) rfl (by decide +kernel) rfl rfl (Nat.le_of_ble_eq_true rfl) dX5_word_63 (fun w4 H locs f5 fr6 hzw4 hP => ?_)
          have f5 : w4 26 = some (.inr (5, [.int (nI 1), .int rs, .int (nI nT), .ref (B + 27), .int (nI n), .ref (B + 28), .ref (B + 29), .int (nI on), .ref (B + 30), .ref (B + 31), .ref (B + 32), .int (nI nL), .ref (B + 33), .ref (B + 34), .ref (B + 35), .ref (B + 36), .int (nI nS), .ref (B + 37), .ref (B + 38), .int (nI nC), .ref (B + 39), .ref (B + 40), .ref (B + 41), .int (nI nW), .ref (B + 42), .int hi, .ref (B + 43), .int (nI nM), .ref (B + 44), .ref (B + 45), .ref (B + 46)])) := f5
          have q42 : w4 42 = some (kl_aI G 10 ((fun t => nI (wt t)))) := (fr6 _ (by decide)).trans q42
          have frm : ∀ j : Nat, j ≠ 26 → j ≠ 42 → w4 j = w j := fun j k0 k1 => (fr6 j k0).trans (frm j k0 k1)
          refine lv_aload_n hx hb dX5_word_66 rfl (lv_at hl 1 rfl) ?_
          refine kl_get (C := RX5) (T := TX5) (N := 31) (ci := 5) hx hb hts hinX5 hown hK hP f5 rfl 0 (by decide) (hts (.fieldLink RX5 71 "KinLedgerModel" "code" "I") (by decide +kernel)) (fun _ h9 => h9) rfl dX5_word_67 ?_
          refine kl_z_le (tgt := 75) hx hb (by omega) dX5_word_70 (by decide) (fun c70 => absurd c70 (by omega)) (fun c70 => ?_)
          refine lv_iconst (v := nI 0) hx hb dX5_word_73 (by decide) ?_
          exact kl_iret hx hb hr hlocks hP (Or.inl (⟨hnk, f5, q42, frm⟩)) dX5_word_74
        · have hok : mt_word x := by unfold mt_word; grind
          refine lv_iconst (v := nI 1) hx hb dX5_word_34 (by decide) ?_
          refine lv_goto (tgt := 39) hx hb dX5_word_35 (by decide) ?_
          refine lv_istore_n (lv' := [(2, .int (nI 1)), (0, .ref (B + 26)), (1, .int x)]) hx hb dX5_word_39 rfl hl (by decide) rfl (fun ls hl => ?_)
          refine lv_aload_n hx hb dX5_word_40 rfl (lv_at hl 1 rfl) ?_
          refine lv_iload_n hx hb dX5_word_41 rfl (lv_at hl 0 rfl) ?_
          refine kl_z_ne (tgt := 49) hx hb (by omega) dX5_word_42 (by decide) (fun c42 => ?_) (fun c42 => absurd c42 (by omega))
          refine lv_aload_n hx hb dX5_word_49 rfl (lv_at hl 1 rfl) ?_
          refine kl_get (C := RX5) (T := TX5) (N := 31) (ci := 5) hx hb hts hinX5 hown hK hP q26 rfl 23 (by decide) (hts (.fieldLink RX5 124 "KinLedgerModel" "waiting" "I") (by decide +kernel)) (fun _ h9 => h9) rfl dX5_word_50 ?_
          refine lv_bipush (v := nI 10) hx hb dX5_word_53 (by decide) ?_
          refine kl_ne (tgt := 62) hx hb (by omega) (by omega) dX5_word_55 (by decide) (fun c55 => ?_) (fun c55 => ?_)
          · refine lv_iconst (v := nI 0) hx hb dX5_word_62 (by decide) ?_
            refine kl_put (C := RX5) (T := TX5) (N := 31) (ci := 5) (v := .int (nI 0)) (ty := .int) hx hb hts hinX5 tyX5 tyX5_ok nmX5 hown hK hP q26 rfl 0 (by decide) (hts (.fieldLink RX5 71 "KinLedgerModel" "code" "I") (by decide +kernel)) (fun _ h9 => h9) rfl (by decide +kernel) rfl rfl (Nat.le_of_ble_eq_true rfl) dX5_word_63 (fun w7 H locs f8 fr9 hzw7 hP => ?_)
            have f8 : w7 26 = some (.inr (5, [.int (nI 0), .int rs, .int (nI nT), .ref (B + 27), .int (nI n), .ref (B + 28), .ref (B + 29), .int (nI on), .ref (B + 30), .ref (B + 31), .ref (B + 32), .int (nI nL), .ref (B + 33), .ref (B + 34), .ref (B + 35), .ref (B + 36), .int (nI nS), .ref (B + 37), .ref (B + 38), .int (nI nC), .ref (B + 39), .ref (B + 40), .ref (B + 41), .int (nI nW), .ref (B + 42), .int hi, .ref (B + 43), .int (nI nM), .ref (B + 44), .ref (B + 45), .ref (B + 46)])) := f8
            have q42 : w7 42 = some (kl_aI G 10 ((fun t => nI (wt t)))) := (fr9 _ (by decide)).trans q42
            have frm : ∀ j : Nat, j ≠ 26 → j ≠ 42 → w7 j = w j := fun j k0 k1 => (fr9 j k0).trans (frm j k0 k1)
            refine lv_aload_n hx hb dX5_word_66 rfl (lv_at hl 1 rfl) ?_
            refine kl_get (C := RX5) (T := TX5) (N := 31) (ci := 5) hx hb hts hinX5 hown hK hP f8 rfl 0 (by decide) (hts (.fieldLink RX5 71 "KinLedgerModel" "code" "I") (by decide +kernel)) (fun _ h9 => h9) rfl dX5_word_67 ?_
            refine kl_z_le (tgt := 75) hx hb (by omega) dX5_word_70 (by decide) (fun c70 => ?_) (fun c70 => absurd c70 (by omega))
            obtain ⟨k, rfl, hk⟩ := mt_word_nat hok
            refine lv_aload_n hx hb dX5_word_75 rfl (lv_at hl 1 rfl) ?_
            refine kl_get (C := RX5) (T := TX5) (N := 31) (ci := 5) hx hb hts hinX5 hown hK hP f8 rfl 24 (by decide) (hts (.fieldLink RX5 56 "KinLedgerModel" "words" "[I") (by decide +kernel)) (fun _ h9 => h9) rfl dX5_word_76 ?_
            refine lv_aload_n hx hb dX5_word_79 rfl (lv_at hl 1 rfl) ?_
            refine kl_get (C := RX5) (T := TX5) (N := 31) (ci := 5) hx hb hts hinX5 hown hK hP f8 rfl 23 (by decide) (hts (.fieldLink RX5 124 "KinLedgerModel" "waiting" "I") (by decide +kernel)) (fun _ h9 => h9) rfl dX5_word_80 ?_
            refine lv_iload_n hx hb dX5_word_83 rfl (lv_at hl 2 rfl) ?_
            refine kl_iast hx hb hK hP q42 (by omega) (by omega) dX5_word_84 (fun w10 H locs f11 fr12 hzw10 hP => ?_)
            rw [kl_nup_upd] at f11
            have f8 : w10 26 = some (.inr (5, [.int (nI 0), .int rs, .int (nI nT), .ref (B + 27), .int (nI n), .ref (B + 28), .ref (B + 29), .int (nI on), .ref (B + 30), .ref (B + 31), .ref (B + 32), .int (nI nL), .ref (B + 33), .ref (B + 34), .ref (B + 35), .ref (B + 36), .int (nI nS), .ref (B + 37), .ref (B + 38), .int (nI nC), .ref (B + 39), .ref (B + 40), .ref (B + 41), .int (nI nW), .ref (B + 42), .int hi, .ref (B + 43), .int (nI nM), .ref (B + 44), .ref (B + 45), .ref (B + 46)])) := (fr12 _ (by decide)).trans f8
            have frm : ∀ j : Nat, j ≠ 26 → j ≠ 42 → w10 j = w j := fun j k0 k1 => (fr12 j k1).trans (frm j k0 k1)
            refine lv_aload_n hx hb dX5_word_85 rfl (lv_at hl 1 rfl) ?_
            refine lv_dup hx hb dX5_word_86 rfl ?_
            refine kl_get (C := RX5) (T := TX5) (N := 31) (ci := 5) hx hb hts hinX5 hown hK hP f8 rfl 23 (by decide) (hts (.fieldLink RX5 124 "KinLedgerModel" "waiting" "I") (by decide +kernel)) (fun _ h9 => h9) rfl dX5_word_87 ?_
            refine lv_iconst (v := nI 1) hx hb dX5_word_90 (by decide) ?_
            refine lv_iadd hx hb dX5_word_91 ?_
            refine kl_top (z := nI (nW + 1)) (by first | exact nI_add _ _ | (rw [nI_add]; first | rfl | (congr 1; omega))) ?_
            refine kl_put (C := RX5) (T := TX5) (N := 31) (ci := 5) (v := .int (nI (nW + 1))) (ty := .int) hx hb hts hinX5 tyX5 tyX5_ok nmX5 hown hK hP f8 rfl 23 (by decide) (hts (.fieldLink RX5 124 "KinLedgerModel" "waiting" "I") (by decide +kernel)) (fun _ h9 => h9) rfl (by decide +kernel) rfl rfl (Nat.le_of_ble_eq_true rfl) dX5_word_92 (fun w13 H locs f14 fr15 hzw13 hP => ?_)
            have f14 : w13 26 = some (.inr (5, [.int (nI 0), .int rs, .int (nI nT), .ref (B + 27), .int (nI n), .ref (B + 28), .ref (B + 29), .int (nI on), .ref (B + 30), .ref (B + 31), .ref (B + 32), .int (nI nL), .ref (B + 33), .ref (B + 34), .ref (B + 35), .ref (B + 36), .int (nI nS), .ref (B + 37), .ref (B + 38), .int (nI nC), .ref (B + 39), .ref (B + 40), .ref (B + 41), .int (nI (nW + 1)), .ref (B + 42), .int hi, .ref (B + 43), .int (nI nM), .ref (B + 44), .ref (B + 45), .ref (B + 46)])) := f14
            have f11 : w13 42 = some (kl_aI G 10 ((fun t => nI ((kl_nup wt nW k) t)))) := (fr15 _ (by decide)).trans f11
            have frm : ∀ j : Nat, j ≠ 26 → j ≠ 42 → w13 j = w j := fun j k0 k1 => (fr15 j k0).trans (frm j k0 k1)
            refine lv_aload_n hx hb dX5_word_95 rfl (lv_at hl 1 rfl) ?_
            refine kl_get (C := RX5) (T := TX5) (N := 31) (ci := 5) hx hb hts hinX5 hown hK hP f14 rfl 23 (by decide) (hts (.fieldLink RX5 124 "KinLedgerModel" "waiting" "I") (by decide +kernel)) (fun _ h9 => h9) rfl dX5_word_96 ?_
            exact kl_iret hx hb hr hlocks hP (Or.inr (Or.inr (⟨hok, by omega, rfl, f14, ⟨k, rfl, hk, f11⟩, frm⟩))) dX5_word_99
          · refine lv_iconst (v := nI 2) hx hb dX5_word_58 (by decide) ?_
            refine lv_goto (tgt := 63) hx hb dX5_word_59 (by decide) ?_
            refine kl_put (C := RX5) (T := TX5) (N := 31) (ci := 5) (v := .int (nI 2)) (ty := .int) hx hb hts hinX5 tyX5 tyX5_ok nmX5 hown hK hP q26 rfl 0 (by decide) (hts (.fieldLink RX5 71 "KinLedgerModel" "code" "I") (by decide +kernel)) (fun _ h9 => h9) rfl (by decide +kernel) rfl rfl (Nat.le_of_ble_eq_true rfl) dX5_word_63 (fun w16 H locs f17 fr18 hzw16 hP => ?_)
            have f17 : w16 26 = some (.inr (5, [.int (nI 2), .int rs, .int (nI nT), .ref (B + 27), .int (nI n), .ref (B + 28), .ref (B + 29), .int (nI on), .ref (B + 30), .ref (B + 31), .ref (B + 32), .int (nI nL), .ref (B + 33), .ref (B + 34), .ref (B + 35), .ref (B + 36), .int (nI nS), .ref (B + 37), .ref (B + 38), .int (nI nC), .ref (B + 39), .ref (B + 40), .ref (B + 41), .int (nI nW), .ref (B + 42), .int hi, .ref (B + 43), .int (nI nM), .ref (B + 44), .ref (B + 45), .ref (B + 46)])) := f17
            have q42 : w16 42 = some (kl_aI G 10 ((fun t => nI (wt t)))) := (fr18 _ (by decide)).trans q42
            have frm : ∀ j : Nat, j ≠ 26 → j ≠ 42 → w16 j = w j := fun j k0 k1 => (fr18 j k0).trans (frm j k0 k1)
            refine lv_aload_n hx hb dX5_word_66 rfl (lv_at hl 1 rfl) ?_
            refine kl_get (C := RX5) (T := TX5) (N := 31) (ci := 5) hx hb hts hinX5 hown hK hP f17 rfl 0 (by decide) (hts (.fieldLink RX5 71 "KinLedgerModel" "code" "I") (by decide +kernel)) (fun _ h9 => h9) rfl dX5_word_67 ?_
            refine kl_z_le (tgt := 75) hx hb (by omega) dX5_word_70 (by decide) (fun c70 => absurd c70 (by omega)) (fun c70 => ?_)
            refine lv_iconst (v := nI 0) hx hb dX5_word_73 (by decide) ?_
            exact kl_iret hx hb hr hlocks hP (Or.inr (Or.inl (⟨hok, by omega, f17, q42, frm⟩))) dX5_word_74
    · refine lv_iload_n hx hb dX5_word_15 rfl (lv_at hl 1 rfl) ?_
      refine lv_bipush (v := nI 17) hx hb dX5_word_16 (by decide) ?_
      refine lv_icmp_le (tgt := 34) hx hb dX5_word_18 (by decide) (fun c18 => ?_) (fun c18 => ?_)
      · have hok : mt_word x := by unfold mt_word; grind
        refine lv_iconst (v := nI 1) hx hb dX5_word_34 (by decide) ?_
        refine lv_goto (tgt := 39) hx hb dX5_word_35 (by decide) ?_
        refine lv_istore_n (lv' := [(2, .int (nI 1)), (0, .ref (B + 26)), (1, .int x)]) hx hb dX5_word_39 rfl hl (by decide) rfl (fun ls hl => ?_)
        refine lv_aload_n hx hb dX5_word_40 rfl (lv_at hl 1 rfl) ?_
        refine lv_iload_n hx hb dX5_word_41 rfl (lv_at hl 0 rfl) ?_
        refine kl_z_ne (tgt := 49) hx hb (by omega) dX5_word_42 (by decide) (fun c42 => ?_) (fun c42 => absurd c42 (by omega))
        refine lv_aload_n hx hb dX5_word_49 rfl (lv_at hl 1 rfl) ?_
        refine kl_get (C := RX5) (T := TX5) (N := 31) (ci := 5) hx hb hts hinX5 hown hK hP q26 rfl 23 (by decide) (hts (.fieldLink RX5 124 "KinLedgerModel" "waiting" "I") (by decide +kernel)) (fun _ h9 => h9) rfl dX5_word_50 ?_
        refine lv_bipush (v := nI 10) hx hb dX5_word_53 (by decide) ?_
        refine kl_ne (tgt := 62) hx hb (by omega) (by omega) dX5_word_55 (by decide) (fun c55 => ?_) (fun c55 => ?_)
        · refine lv_iconst (v := nI 0) hx hb dX5_word_62 (by decide) ?_
          refine kl_put (C := RX5) (T := TX5) (N := 31) (ci := 5) (v := .int (nI 0)) (ty := .int) hx hb hts hinX5 tyX5 tyX5_ok nmX5 hown hK hP q26 rfl 0 (by decide) (hts (.fieldLink RX5 71 "KinLedgerModel" "code" "I") (by decide +kernel)) (fun _ h9 => h9) rfl (by decide +kernel) rfl rfl (Nat.le_of_ble_eq_true rfl) dX5_word_63 (fun w19 H locs f20 fr21 hzw19 hP => ?_)
          have f20 : w19 26 = some (.inr (5, [.int (nI 0), .int rs, .int (nI nT), .ref (B + 27), .int (nI n), .ref (B + 28), .ref (B + 29), .int (nI on), .ref (B + 30), .ref (B + 31), .ref (B + 32), .int (nI nL), .ref (B + 33), .ref (B + 34), .ref (B + 35), .ref (B + 36), .int (nI nS), .ref (B + 37), .ref (B + 38), .int (nI nC), .ref (B + 39), .ref (B + 40), .ref (B + 41), .int (nI nW), .ref (B + 42), .int hi, .ref (B + 43), .int (nI nM), .ref (B + 44), .ref (B + 45), .ref (B + 46)])) := f20
          have q42 : w19 42 = some (kl_aI G 10 ((fun t => nI (wt t)))) := (fr21 _ (by decide)).trans q42
          have frm : ∀ j : Nat, j ≠ 26 → j ≠ 42 → w19 j = w j := fun j k0 k1 => (fr21 j k0).trans (frm j k0 k1)
          refine lv_aload_n hx hb dX5_word_66 rfl (lv_at hl 1 rfl) ?_
          refine kl_get (C := RX5) (T := TX5) (N := 31) (ci := 5) hx hb hts hinX5 hown hK hP f20 rfl 0 (by decide) (hts (.fieldLink RX5 71 "KinLedgerModel" "code" "I") (by decide +kernel)) (fun _ h9 => h9) rfl dX5_word_67 ?_
          refine kl_z_le (tgt := 75) hx hb (by omega) dX5_word_70 (by decide) (fun c70 => ?_) (fun c70 => absurd c70 (by omega))
          obtain ⟨k, rfl, hk⟩ := mt_word_nat hok
          refine lv_aload_n hx hb dX5_word_75 rfl (lv_at hl 1 rfl) ?_
          refine kl_get (C := RX5) (T := TX5) (N := 31) (ci := 5) hx hb hts hinX5 hown hK hP f20 rfl 24 (by decide) (hts (.fieldLink RX5 56 "KinLedgerModel" "words" "[I") (by decide +kernel)) (fun _ h9 => h9) rfl dX5_word_76 ?_
          refine lv_aload_n hx hb dX5_word_79 rfl (lv_at hl 1 rfl) ?_
          refine kl_get (C := RX5) (T := TX5) (N := 31) (ci := 5) hx hb hts hinX5 hown hK hP f20 rfl 23 (by decide) (hts (.fieldLink RX5 124 "KinLedgerModel" "waiting" "I") (by decide +kernel)) (fun _ h9 => h9) rfl dX5_word_80 ?_
          refine lv_iload_n hx hb dX5_word_83 rfl (lv_at hl 2 rfl) ?_
          refine kl_iast hx hb hK hP q42 (by omega) (by omega) dX5_word_84 (fun w22 H locs f23 fr24 hzw22 hP => ?_)
          rw [kl_nup_upd] at f23
          have f20 : w22 26 = some (.inr (5, [.int (nI 0), .int rs, .int (nI nT), .ref (B + 27), .int (nI n), .ref (B + 28), .ref (B + 29), .int (nI on), .ref (B + 30), .ref (B + 31), .ref (B + 32), .int (nI nL), .ref (B + 33), .ref (B + 34), .ref (B + 35), .ref (B + 36), .int (nI nS), .ref (B + 37), .ref (B + 38), .int (nI nC), .ref (B + 39), .ref (B + 40), .ref (B + 41), .int (nI nW), .ref (B + 42), .int hi, .ref (B + 43), .int (nI nM), .ref (B + 44), .ref (B + 45), .ref (B + 46)])) := (fr24 _ (by decide)).trans f20
          have frm : ∀ j : Nat, j ≠ 26 → j ≠ 42 → w22 j = w j := fun j k0 k1 => (fr24 j k1).trans (frm j k0 k1)
          refine lv_aload_n hx hb dX5_word_85 rfl (lv_at hl 1 rfl) ?_
          refine lv_dup hx hb dX5_word_86 rfl ?_
          refine kl_get (C := RX5) (T := TX5) (N := 31) (ci := 5) hx hb hts hinX5 hown hK hP f20 rfl 23 (by decide) (hts (.fieldLink RX5 124 "KinLedgerModel" "waiting" "I") (by decide +kernel)) (fun _ h9 => h9) rfl dX5_word_87 ?_
          refine lv_iconst (v := nI 1) hx hb dX5_word_90 (by decide) ?_
          refine lv_iadd hx hb dX5_word_91 ?_
          refine kl_top (z := nI (nW + 1)) (by first | exact nI_add _ _ | (rw [nI_add]; first | rfl | (congr 1; omega))) ?_
          refine kl_put (C := RX5) (T := TX5) (N := 31) (ci := 5) (v := .int (nI (nW + 1))) (ty := .int) hx hb hts hinX5 tyX5 tyX5_ok nmX5 hown hK hP f20 rfl 23 (by decide) (hts (.fieldLink RX5 124 "KinLedgerModel" "waiting" "I") (by decide +kernel)) (fun _ h9 => h9) rfl (by decide +kernel) rfl rfl (Nat.le_of_ble_eq_true rfl) dX5_word_92 (fun w25 H locs f26 fr27 hzw25 hP => ?_)
          have f26 : w25 26 = some (.inr (5, [.int (nI 0), .int rs, .int (nI nT), .ref (B + 27), .int (nI n), .ref (B + 28), .ref (B + 29), .int (nI on), .ref (B + 30), .ref (B + 31), .ref (B + 32), .int (nI nL), .ref (B + 33), .ref (B + 34), .ref (B + 35), .ref (B + 36), .int (nI nS), .ref (B + 37), .ref (B + 38), .int (nI nC), .ref (B + 39), .ref (B + 40), .ref (B + 41), .int (nI (nW + 1)), .ref (B + 42), .int hi, .ref (B + 43), .int (nI nM), .ref (B + 44), .ref (B + 45), .ref (B + 46)])) := f26
          have f23 : w25 42 = some (kl_aI G 10 ((fun t => nI ((kl_nup wt nW k) t)))) := (fr27 _ (by decide)).trans f23
          have frm : ∀ j : Nat, j ≠ 26 → j ≠ 42 → w25 j = w j := fun j k0 k1 => (fr27 j k0).trans (frm j k0 k1)
          refine lv_aload_n hx hb dX5_word_95 rfl (lv_at hl 1 rfl) ?_
          refine kl_get (C := RX5) (T := TX5) (N := 31) (ci := 5) hx hb hts hinX5 hown hK hP f26 rfl 23 (by decide) (hts (.fieldLink RX5 124 "KinLedgerModel" "waiting" "I") (by decide +kernel)) (fun _ h9 => h9) rfl dX5_word_96 ?_
          exact kl_iret hx hb hr hlocks hP (Or.inr (Or.inr (⟨hok, by omega, rfl, f26, ⟨k, rfl, hk, f23⟩, frm⟩))) dX5_word_99
        · refine lv_iconst (v := nI 2) hx hb dX5_word_58 (by decide) ?_
          refine lv_goto (tgt := 63) hx hb dX5_word_59 (by decide) ?_
          refine kl_put (C := RX5) (T := TX5) (N := 31) (ci := 5) (v := .int (nI 2)) (ty := .int) hx hb hts hinX5 tyX5 tyX5_ok nmX5 hown hK hP q26 rfl 0 (by decide) (hts (.fieldLink RX5 71 "KinLedgerModel" "code" "I") (by decide +kernel)) (fun _ h9 => h9) rfl (by decide +kernel) rfl rfl (Nat.le_of_ble_eq_true rfl) dX5_word_63 (fun w28 H locs f29 fr30 hzw28 hP => ?_)
          have f29 : w28 26 = some (.inr (5, [.int (nI 2), .int rs, .int (nI nT), .ref (B + 27), .int (nI n), .ref (B + 28), .ref (B + 29), .int (nI on), .ref (B + 30), .ref (B + 31), .ref (B + 32), .int (nI nL), .ref (B + 33), .ref (B + 34), .ref (B + 35), .ref (B + 36), .int (nI nS), .ref (B + 37), .ref (B + 38), .int (nI nC), .ref (B + 39), .ref (B + 40), .ref (B + 41), .int (nI nW), .ref (B + 42), .int hi, .ref (B + 43), .int (nI nM), .ref (B + 44), .ref (B + 45), .ref (B + 46)])) := f29
          have q42 : w28 42 = some (kl_aI G 10 ((fun t => nI (wt t)))) := (fr30 _ (by decide)).trans q42
          have frm : ∀ j : Nat, j ≠ 26 → j ≠ 42 → w28 j = w j := fun j k0 k1 => (fr30 j k0).trans (frm j k0 k1)
          refine lv_aload_n hx hb dX5_word_66 rfl (lv_at hl 1 rfl) ?_
          refine kl_get (C := RX5) (T := TX5) (N := 31) (ci := 5) hx hb hts hinX5 hown hK hP f29 rfl 0 (by decide) (hts (.fieldLink RX5 71 "KinLedgerModel" "code" "I") (by decide +kernel)) (fun _ h9 => h9) rfl dX5_word_67 ?_
          refine kl_z_le (tgt := 75) hx hb (by omega) dX5_word_70 (by decide) (fun c70 => absurd c70 (by omega)) (fun c70 => ?_)
          refine lv_iconst (v := nI 0) hx hb dX5_word_73 (by decide) ?_
          exact kl_iret hx hb hr hlocks hP (Or.inr (Or.inl (⟨hok, by omega, f29, q42, frm⟩))) dX5_word_74
      · refine lv_iload_n hx hb dX5_word_21 rfl (lv_at hl 1 rfl) ?_
        refine lv_bipush (v := nI 100) hx hb dX5_word_22 (by decide) ?_
        refine lv_icmp_lt (tgt := 38) hx hb dX5_word_24 (by decide) (fun c24 => ?_) (fun c24 => ?_)
        · have hnk : ¬ mt_word x := by unfold mt_word; grind
          refine lv_iconst (v := nI 0) hx hb dX5_word_38 (by decide) ?_
          refine lv_istore_n (lv' := [(2, .int (nI 0)), (0, .ref (B + 26)), (1, .int x)]) hx hb dX5_word_39 rfl hl (by decide) rfl (fun ls hl => ?_)
          refine lv_aload_n hx hb dX5_word_40 rfl (lv_at hl 1 rfl) ?_
          refine lv_iload_n hx hb dX5_word_41 rfl (lv_at hl 0 rfl) ?_
          refine kl_z_ne (tgt := 49) hx hb (by omega) dX5_word_42 (by decide) (fun c42 => absurd c42 (by omega)) (fun c42 => ?_)
          refine lv_iconst (v := nI 1) hx hb dX5_word_45 (by decide) ?_
          refine lv_goto (tgt := 63) hx hb dX5_word_46 (by decide) ?_
          refine kl_put (C := RX5) (T := TX5) (N := 31) (ci := 5) (v := .int (nI 1)) (ty := .int) hx hb hts hinX5 tyX5 tyX5_ok nmX5 hown hK hP q26 rfl 0 (by decide) (hts (.fieldLink RX5 71 "KinLedgerModel" "code" "I") (by decide +kernel)) (fun _ h9 => h9) rfl (by decide +kernel) rfl rfl (Nat.le_of_ble_eq_true rfl) dX5_word_63 (fun w31 H locs f32 fr33 hzw31 hP => ?_)
          have f32 : w31 26 = some (.inr (5, [.int (nI 1), .int rs, .int (nI nT), .ref (B + 27), .int (nI n), .ref (B + 28), .ref (B + 29), .int (nI on), .ref (B + 30), .ref (B + 31), .ref (B + 32), .int (nI nL), .ref (B + 33), .ref (B + 34), .ref (B + 35), .ref (B + 36), .int (nI nS), .ref (B + 37), .ref (B + 38), .int (nI nC), .ref (B + 39), .ref (B + 40), .ref (B + 41), .int (nI nW), .ref (B + 42), .int hi, .ref (B + 43), .int (nI nM), .ref (B + 44), .ref (B + 45), .ref (B + 46)])) := f32
          have q42 : w31 42 = some (kl_aI G 10 ((fun t => nI (wt t)))) := (fr33 _ (by decide)).trans q42
          have frm : ∀ j : Nat, j ≠ 26 → j ≠ 42 → w31 j = w j := fun j k0 k1 => (fr33 j k0).trans (frm j k0 k1)
          refine lv_aload_n hx hb dX5_word_66 rfl (lv_at hl 1 rfl) ?_
          refine kl_get (C := RX5) (T := TX5) (N := 31) (ci := 5) hx hb hts hinX5 hown hK hP f32 rfl 0 (by decide) (hts (.fieldLink RX5 71 "KinLedgerModel" "code" "I") (by decide +kernel)) (fun _ h9 => h9) rfl dX5_word_67 ?_
          refine kl_z_le (tgt := 75) hx hb (by omega) dX5_word_70 (by decide) (fun c70 => absurd c70 (by omega)) (fun c70 => ?_)
          refine lv_iconst (v := nI 0) hx hb dX5_word_73 (by decide) ?_
          exact kl_iret hx hb hr hlocks hP (Or.inl (⟨hnk, f32, q42, frm⟩)) dX5_word_74
        · refine lv_iload_n hx hb dX5_word_27 rfl (lv_at hl 1 rfl) ?_
          refine lv_sipush (v := nI 300) hx hb dX5_word_28 (by decide) ?_
          refine lv_icmp_gt (tgt := 38) hx hb dX5_word_31 (by decide) (fun c31 => ?_) (fun c31 => ?_)
          · have hnk : ¬ mt_word x := by unfold mt_word; grind
            refine lv_iconst (v := nI 0) hx hb dX5_word_38 (by decide) ?_
            refine lv_istore_n (lv' := [(2, .int (nI 0)), (0, .ref (B + 26)), (1, .int x)]) hx hb dX5_word_39 rfl hl (by decide) rfl (fun ls hl => ?_)
            refine lv_aload_n hx hb dX5_word_40 rfl (lv_at hl 1 rfl) ?_
            refine lv_iload_n hx hb dX5_word_41 rfl (lv_at hl 0 rfl) ?_
            refine kl_z_ne (tgt := 49) hx hb (by omega) dX5_word_42 (by decide) (fun c42 => absurd c42 (by omega)) (fun c42 => ?_)
            refine lv_iconst (v := nI 1) hx hb dX5_word_45 (by decide) ?_
            refine lv_goto (tgt := 63) hx hb dX5_word_46 (by decide) ?_
            refine kl_put (C := RX5) (T := TX5) (N := 31) (ci := 5) (v := .int (nI 1)) (ty := .int) hx hb hts hinX5 tyX5 tyX5_ok nmX5 hown hK hP q26 rfl 0 (by decide) (hts (.fieldLink RX5 71 "KinLedgerModel" "code" "I") (by decide +kernel)) (fun _ h9 => h9) rfl (by decide +kernel) rfl rfl (Nat.le_of_ble_eq_true rfl) dX5_word_63 (fun w34 H locs f35 fr36 hzw34 hP => ?_)
            have f35 : w34 26 = some (.inr (5, [.int (nI 1), .int rs, .int (nI nT), .ref (B + 27), .int (nI n), .ref (B + 28), .ref (B + 29), .int (nI on), .ref (B + 30), .ref (B + 31), .ref (B + 32), .int (nI nL), .ref (B + 33), .ref (B + 34), .ref (B + 35), .ref (B + 36), .int (nI nS), .ref (B + 37), .ref (B + 38), .int (nI nC), .ref (B + 39), .ref (B + 40), .ref (B + 41), .int (nI nW), .ref (B + 42), .int hi, .ref (B + 43), .int (nI nM), .ref (B + 44), .ref (B + 45), .ref (B + 46)])) := f35
            have q42 : w34 42 = some (kl_aI G 10 ((fun t => nI (wt t)))) := (fr36 _ (by decide)).trans q42
            have frm : ∀ j : Nat, j ≠ 26 → j ≠ 42 → w34 j = w j := fun j k0 k1 => (fr36 j k0).trans (frm j k0 k1)
            refine lv_aload_n hx hb dX5_word_66 rfl (lv_at hl 1 rfl) ?_
            refine kl_get (C := RX5) (T := TX5) (N := 31) (ci := 5) hx hb hts hinX5 hown hK hP f35 rfl 0 (by decide) (hts (.fieldLink RX5 71 "KinLedgerModel" "code" "I") (by decide +kernel)) (fun _ h9 => h9) rfl dX5_word_67 ?_
            refine kl_z_le (tgt := 75) hx hb (by omega) dX5_word_70 (by decide) (fun c70 => absurd c70 (by omega)) (fun c70 => ?_)
            refine lv_iconst (v := nI 0) hx hb dX5_word_73 (by decide) ?_
            exact kl_iret hx hb hr hlocks hP (Or.inl (⟨hnk, f35, q42, frm⟩)) dX5_word_74
          · have hok : mt_word x := by unfold mt_word; grind
            refine lv_iconst (v := nI 1) hx hb dX5_word_34 (by decide) ?_
            refine lv_goto (tgt := 39) hx hb dX5_word_35 (by decide) ?_
            refine lv_istore_n (lv' := [(2, .int (nI 1)), (0, .ref (B + 26)), (1, .int x)]) hx hb dX5_word_39 rfl hl (by decide) rfl (fun ls hl => ?_)
            refine lv_aload_n hx hb dX5_word_40 rfl (lv_at hl 1 rfl) ?_
            refine lv_iload_n hx hb dX5_word_41 rfl (lv_at hl 0 rfl) ?_
            refine kl_z_ne (tgt := 49) hx hb (by omega) dX5_word_42 (by decide) (fun c42 => ?_) (fun c42 => absurd c42 (by omega))
            refine lv_aload_n hx hb dX5_word_49 rfl (lv_at hl 1 rfl) ?_
            refine kl_get (C := RX5) (T := TX5) (N := 31) (ci := 5) hx hb hts hinX5 hown hK hP q26 rfl 23 (by decide) (hts (.fieldLink RX5 124 "KinLedgerModel" "waiting" "I") (by decide +kernel)) (fun _ h9 => h9) rfl dX5_word_50 ?_
            refine lv_bipush (v := nI 10) hx hb dX5_word_53 (by decide) ?_
            refine kl_ne (tgt := 62) hx hb (by omega) (by omega) dX5_word_55 (by decide) (fun c55 => ?_) (fun c55 => ?_)
            · refine lv_iconst (v := nI 0) hx hb dX5_word_62 (by decide) ?_
              refine kl_put (C := RX5) (T := TX5) (N := 31) (ci := 5) (v := .int (nI 0)) (ty := .int) hx hb hts hinX5 tyX5 tyX5_ok nmX5 hown hK hP q26 rfl 0 (by decide) (hts (.fieldLink RX5 71 "KinLedgerModel" "code" "I") (by decide +kernel)) (fun _ h9 => h9) rfl (by decide +kernel) rfl rfl (Nat.le_of_ble_eq_true rfl) dX5_word_63 (fun w37 H locs f38 fr39 hzw37 hP => ?_)
              have f38 : w37 26 = some (.inr (5, [.int (nI 0), .int rs, .int (nI nT), .ref (B + 27), .int (nI n), .ref (B + 28), .ref (B + 29), .int (nI on), .ref (B + 30), .ref (B + 31), .ref (B + 32), .int (nI nL), .ref (B + 33), .ref (B + 34), .ref (B + 35), .ref (B + 36), .int (nI nS), .ref (B + 37), .ref (B + 38), .int (nI nC), .ref (B + 39), .ref (B + 40), .ref (B + 41), .int (nI nW), .ref (B + 42), .int hi, .ref (B + 43), .int (nI nM), .ref (B + 44), .ref (B + 45), .ref (B + 46)])) := f38
              have q42 : w37 42 = some (kl_aI G 10 ((fun t => nI (wt t)))) := (fr39 _ (by decide)).trans q42
              have frm : ∀ j : Nat, j ≠ 26 → j ≠ 42 → w37 j = w j := fun j k0 k1 => (fr39 j k0).trans (frm j k0 k1)
              refine lv_aload_n hx hb dX5_word_66 rfl (lv_at hl 1 rfl) ?_
              refine kl_get (C := RX5) (T := TX5) (N := 31) (ci := 5) hx hb hts hinX5 hown hK hP f38 rfl 0 (by decide) (hts (.fieldLink RX5 71 "KinLedgerModel" "code" "I") (by decide +kernel)) (fun _ h9 => h9) rfl dX5_word_67 ?_
              refine kl_z_le (tgt := 75) hx hb (by omega) dX5_word_70 (by decide) (fun c70 => ?_) (fun c70 => absurd c70 (by omega))
              obtain ⟨k, rfl, hk⟩ := mt_word_nat hok
              refine lv_aload_n hx hb dX5_word_75 rfl (lv_at hl 1 rfl) ?_
              refine kl_get (C := RX5) (T := TX5) (N := 31) (ci := 5) hx hb hts hinX5 hown hK hP f38 rfl 24 (by decide) (hts (.fieldLink RX5 56 "KinLedgerModel" "words" "[I") (by decide +kernel)) (fun _ h9 => h9) rfl dX5_word_76 ?_
              refine lv_aload_n hx hb dX5_word_79 rfl (lv_at hl 1 rfl) ?_
              refine kl_get (C := RX5) (T := TX5) (N := 31) (ci := 5) hx hb hts hinX5 hown hK hP f38 rfl 23 (by decide) (hts (.fieldLink RX5 124 "KinLedgerModel" "waiting" "I") (by decide +kernel)) (fun _ h9 => h9) rfl dX5_word_80 ?_
              refine lv_iload_n hx hb dX5_word_83 rfl (lv_at hl 2 rfl) ?_
              refine kl_iast hx hb hK hP q42 (by omega) (by omega) dX5_word_84 (fun w40 H locs f41 fr42 hzw40 hP => ?_)
              rw [kl_nup_upd] at f41
              have f38 : w40 26 = some (.inr (5, [.int (nI 0), .int rs, .int (nI nT), .ref (B + 27), .int (nI n), .ref (B + 28), .ref (B + 29), .int (nI on), .ref (B + 30), .ref (B + 31), .ref (B + 32), .int (nI nL), .ref (B + 33), .ref (B + 34), .ref (B + 35), .ref (B + 36), .int (nI nS), .ref (B + 37), .ref (B + 38), .int (nI nC), .ref (B + 39), .ref (B + 40), .ref (B + 41), .int (nI nW), .ref (B + 42), .int hi, .ref (B + 43), .int (nI nM), .ref (B + 44), .ref (B + 45), .ref (B + 46)])) := (fr42 _ (by decide)).trans f38
              have frm : ∀ j : Nat, j ≠ 26 → j ≠ 42 → w40 j = w j := fun j k0 k1 => (fr42 j k1).trans (frm j k0 k1)
              refine lv_aload_n hx hb dX5_word_85 rfl (lv_at hl 1 rfl) ?_
              refine lv_dup hx hb dX5_word_86 rfl ?_
              refine kl_get (C := RX5) (T := TX5) (N := 31) (ci := 5) hx hb hts hinX5 hown hK hP f38 rfl 23 (by decide) (hts (.fieldLink RX5 124 "KinLedgerModel" "waiting" "I") (by decide +kernel)) (fun _ h9 => h9) rfl dX5_word_87 ?_
              refine lv_iconst (v := nI 1) hx hb dX5_word_90 (by decide) ?_
              refine lv_iadd hx hb dX5_word_91 ?_
              refine kl_top (z := nI (nW + 1)) (by first | exact nI_add _ _ | (rw [nI_add]; first | rfl | (congr 1; omega))) ?_
              refine kl_put (C := RX5) (T := TX5) (N := 31) (ci := 5) (v := .int (nI (nW + 1))) (ty := .int) hx hb hts hinX5 tyX5 tyX5_ok nmX5 hown hK hP f38 rfl 23 (by decide) (hts (.fieldLink RX5 124 "KinLedgerModel" "waiting" "I") (by decide +kernel)) (fun _ h9 => h9) rfl (by decide +kernel) rfl rfl (Nat.le_of_ble_eq_true rfl) dX5_word_92 (fun w43 H locs f44 fr45 hzw43 hP => ?_)
              have f44 : w43 26 = some (.inr (5, [.int (nI 0), .int rs, .int (nI nT), .ref (B + 27), .int (nI n), .ref (B + 28), .ref (B + 29), .int (nI on), .ref (B + 30), .ref (B + 31), .ref (B + 32), .int (nI nL), .ref (B + 33), .ref (B + 34), .ref (B + 35), .ref (B + 36), .int (nI nS), .ref (B + 37), .ref (B + 38), .int (nI nC), .ref (B + 39), .ref (B + 40), .ref (B + 41), .int (nI (nW + 1)), .ref (B + 42), .int hi, .ref (B + 43), .int (nI nM), .ref (B + 44), .ref (B + 45), .ref (B + 46)])) := f44
              have f41 : w43 42 = some (kl_aI G 10 ((fun t => nI ((kl_nup wt nW k) t)))) := (fr45 _ (by decide)).trans f41
              have frm : ∀ j : Nat, j ≠ 26 → j ≠ 42 → w43 j = w j := fun j k0 k1 => (fr45 j k0).trans (frm j k0 k1)
              refine lv_aload_n hx hb dX5_word_95 rfl (lv_at hl 1 rfl) ?_
              refine kl_get (C := RX5) (T := TX5) (N := 31) (ci := 5) hx hb hts hinX5 hown hK hP f44 rfl 23 (by decide) (hts (.fieldLink RX5 124 "KinLedgerModel" "waiting" "I") (by decide +kernel)) (fun _ h9 => h9) rfl dX5_word_96 ?_
              exact kl_iret hx hb hr hlocks hP (Or.inr (Or.inr (⟨hok, by omega, rfl, f44, ⟨k, rfl, hk, f41⟩, frm⟩))) dX5_word_99
            · refine lv_iconst (v := nI 2) hx hb dX5_word_58 (by decide) ?_
              refine lv_goto (tgt := 63) hx hb dX5_word_59 (by decide) ?_
              refine kl_put (C := RX5) (T := TX5) (N := 31) (ci := 5) (v := .int (nI 2)) (ty := .int) hx hb hts hinX5 tyX5 tyX5_ok nmX5 hown hK hP q26 rfl 0 (by decide) (hts (.fieldLink RX5 71 "KinLedgerModel" "code" "I") (by decide +kernel)) (fun _ h9 => h9) rfl (by decide +kernel) rfl rfl (Nat.le_of_ble_eq_true rfl) dX5_word_63 (fun w46 H locs f47 fr48 hzw46 hP => ?_)
              have f47 : w46 26 = some (.inr (5, [.int (nI 2), .int rs, .int (nI nT), .ref (B + 27), .int (nI n), .ref (B + 28), .ref (B + 29), .int (nI on), .ref (B + 30), .ref (B + 31), .ref (B + 32), .int (nI nL), .ref (B + 33), .ref (B + 34), .ref (B + 35), .ref (B + 36), .int (nI nS), .ref (B + 37), .ref (B + 38), .int (nI nC), .ref (B + 39), .ref (B + 40), .ref (B + 41), .int (nI nW), .ref (B + 42), .int hi, .ref (B + 43), .int (nI nM), .ref (B + 44), .ref (B + 45), .ref (B + 46)])) := f47
              have q42 : w46 42 = some (kl_aI G 10 ((fun t => nI (wt t)))) := (fr48 _ (by decide)).trans q42
              have frm : ∀ j : Nat, j ≠ 26 → j ≠ 42 → w46 j = w j := fun j k0 k1 => (fr48 j k0).trans (frm j k0 k1)
              refine lv_aload_n hx hb dX5_word_66 rfl (lv_at hl 1 rfl) ?_
              refine kl_get (C := RX5) (T := TX5) (N := 31) (ci := 5) hx hb hts hinX5 hown hK hP f47 rfl 0 (by decide) (hts (.fieldLink RX5 71 "KinLedgerModel" "code" "I") (by decide +kernel)) (fun _ h9 => h9) rfl dX5_word_67 ?_
              refine kl_z_le (tgt := 75) hx hb (by omega) dX5_word_70 (by decide) (fun c70 => absurd c70 (by omega)) (fun c70 => ?_)
              refine lv_iconst (v := nI 0) hx hb dX5_word_73 (by decide) ?_
              exact kl_iret hx hb hr hlocks hP (Or.inr (Or.inl (⟨hok, by omega, f47, q42, frm⟩))) dX5_word_74
  · refine lv_iload_n hx hb dX5_word_4 rfl (lv_at hl 1 rfl) ?_
    refine lv_iconst (v := nI 3) hx hb dX5_word_5 (by decide) ?_
    refine lv_icmp_le (tgt := 34) hx hb dX5_word_6 (by decide) (fun c6 => ?_) (fun c6 => ?_)
    · have hok : mt_word x := by unfold mt_word; grind
      refine lv_iconst (v := nI 1) hx hb dX5_word_34 (by decide) ?_
      refine lv_goto (tgt := 39) hx hb dX5_word_35 (by decide) ?_
      refine lv_istore_n (lv' := [(2, .int (nI 1)), (0, .ref (B + 26)), (1, .int x)]) hx hb dX5_word_39 rfl hl (by decide) rfl (fun ls hl => ?_)
      refine lv_aload_n hx hb dX5_word_40 rfl (lv_at hl 1 rfl) ?_
      refine lv_iload_n hx hb dX5_word_41 rfl (lv_at hl 0 rfl) ?_
      refine kl_z_ne (tgt := 49) hx hb (by omega) dX5_word_42 (by decide) (fun c42 => ?_) (fun c42 => absurd c42 (by omega))
      refine lv_aload_n hx hb dX5_word_49 rfl (lv_at hl 1 rfl) ?_
      refine kl_get (C := RX5) (T := TX5) (N := 31) (ci := 5) hx hb hts hinX5 hown hK hP q26 rfl 23 (by decide) (hts (.fieldLink RX5 124 "KinLedgerModel" "waiting" "I") (by decide +kernel)) (fun _ h9 => h9) rfl dX5_word_50 ?_
      refine lv_bipush (v := nI 10) hx hb dX5_word_53 (by decide) ?_
      refine kl_ne (tgt := 62) hx hb (by omega) (by omega) dX5_word_55 (by decide) (fun c55 => ?_) (fun c55 => ?_)
      · refine lv_iconst (v := nI 0) hx hb dX5_word_62 (by decide) ?_
        refine kl_put (C := RX5) (T := TX5) (N := 31) (ci := 5) (v := .int (nI 0)) (ty := .int) hx hb hts hinX5 tyX5 tyX5_ok nmX5 hown hK hP q26 rfl 0 (by decide) (hts (.fieldLink RX5 71 "KinLedgerModel" "code" "I") (by decide +kernel)) (fun _ h9 => h9) rfl (by decide +kernel) rfl rfl (Nat.le_of_ble_eq_true rfl) dX5_word_63 (fun w49 H locs f50 fr51 hzw49 hP => ?_)
        have f50 : w49 26 = some (.inr (5, [.int (nI 0), .int rs, .int (nI nT), .ref (B + 27), .int (nI n), .ref (B + 28), .ref (B + 29), .int (nI on), .ref (B + 30), .ref (B + 31), .ref (B + 32), .int (nI nL), .ref (B + 33), .ref (B + 34), .ref (B + 35), .ref (B + 36), .int (nI nS), .ref (B + 37), .ref (B + 38), .int (nI nC), .ref (B + 39), .ref (B + 40), .ref (B + 41), .int (nI nW), .ref (B + 42), .int hi, .ref (B + 43), .int (nI nM), .ref (B + 44), .ref (B + 45), .ref (B + 46)])) := f50
        have q42 : w49 42 = some (kl_aI G 10 ((fun t => nI (wt t)))) := (fr51 _ (by decide)).trans q42
        have frm : ∀ j : Nat, j ≠ 26 → j ≠ 42 → w49 j = w j := fun j k0 k1 => (fr51 j k0).trans (frm j k0 k1)
        refine lv_aload_n hx hb dX5_word_66 rfl (lv_at hl 1 rfl) ?_
        refine kl_get (C := RX5) (T := TX5) (N := 31) (ci := 5) hx hb hts hinX5 hown hK hP f50 rfl 0 (by decide) (hts (.fieldLink RX5 71 "KinLedgerModel" "code" "I") (by decide +kernel)) (fun _ h9 => h9) rfl dX5_word_67 ?_
        refine kl_z_le (tgt := 75) hx hb (by omega) dX5_word_70 (by decide) (fun c70 => ?_) (fun c70 => absurd c70 (by omega))
        obtain ⟨k, rfl, hk⟩ := mt_word_nat hok
        refine lv_aload_n hx hb dX5_word_75 rfl (lv_at hl 1 rfl) ?_
        refine kl_get (C := RX5) (T := TX5) (N := 31) (ci := 5) hx hb hts hinX5 hown hK hP f50 rfl 24 (by decide) (hts (.fieldLink RX5 56 "KinLedgerModel" "words" "[I") (by decide +kernel)) (fun _ h9 => h9) rfl dX5_word_76 ?_
        refine lv_aload_n hx hb dX5_word_79 rfl (lv_at hl 1 rfl) ?_
        refine kl_get (C := RX5) (T := TX5) (N := 31) (ci := 5) hx hb hts hinX5 hown hK hP f50 rfl 23 (by decide) (hts (.fieldLink RX5 124 "KinLedgerModel" "waiting" "I") (by decide +kernel)) (fun _ h9 => h9) rfl dX5_word_80 ?_
        refine lv_iload_n hx hb dX5_word_83 rfl (lv_at hl 2 rfl) ?_
        refine kl_iast hx hb hK hP q42 (by omega) (by omega) dX5_word_84 (fun w52 H locs f53 fr54 hzw52 hP => ?_)
        rw [kl_nup_upd] at f53
        have f50 : w52 26 = some (.inr (5, [.int (nI 0), .int rs, .int (nI nT), .ref (B + 27), .int (nI n), .ref (B + 28), .ref (B + 29), .int (nI on), .ref (B + 30), .ref (B + 31), .ref (B + 32), .int (nI nL), .ref (B + 33), .ref (B + 34), .ref (B + 35), .ref (B + 36), .int (nI nS), .ref (B + 37), .ref (B + 38), .int (nI nC), .ref (B + 39), .ref (B + 40), .ref (B + 41), .int (nI nW), .ref (B + 42), .int hi, .ref (B + 43), .int (nI nM), .ref (B + 44), .ref (B + 45), .ref (B + 46)])) := (fr54 _ (by decide)).trans f50
        have frm : ∀ j : Nat, j ≠ 26 → j ≠ 42 → w52 j = w j := fun j k0 k1 => (fr54 j k1).trans (frm j k0 k1)
        refine lv_aload_n hx hb dX5_word_85 rfl (lv_at hl 1 rfl) ?_
        refine lv_dup hx hb dX5_word_86 rfl ?_
        refine kl_get (C := RX5) (T := TX5) (N := 31) (ci := 5) hx hb hts hinX5 hown hK hP f50 rfl 23 (by decide) (hts (.fieldLink RX5 124 "KinLedgerModel" "waiting" "I") (by decide +kernel)) (fun _ h9 => h9) rfl dX5_word_87 ?_
        refine lv_iconst (v := nI 1) hx hb dX5_word_90 (by decide) ?_
        refine lv_iadd hx hb dX5_word_91 ?_
        refine kl_top (z := nI (nW + 1)) (by first | exact nI_add _ _ | (rw [nI_add]; first | rfl | (congr 1; omega))) ?_
        refine kl_put (C := RX5) (T := TX5) (N := 31) (ci := 5) (v := .int (nI (nW + 1))) (ty := .int) hx hb hts hinX5 tyX5 tyX5_ok nmX5 hown hK hP f50 rfl 23 (by decide) (hts (.fieldLink RX5 124 "KinLedgerModel" "waiting" "I") (by decide +kernel)) (fun _ h9 => h9) rfl (by decide +kernel) rfl rfl (Nat.le_of_ble_eq_true rfl) dX5_word_92 (fun w55 H locs f56 fr57 hzw55 hP => ?_)
        have f56 : w55 26 = some (.inr (5, [.int (nI 0), .int rs, .int (nI nT), .ref (B + 27), .int (nI n), .ref (B + 28), .ref (B + 29), .int (nI on), .ref (B + 30), .ref (B + 31), .ref (B + 32), .int (nI nL), .ref (B + 33), .ref (B + 34), .ref (B + 35), .ref (B + 36), .int (nI nS), .ref (B + 37), .ref (B + 38), .int (nI nC), .ref (B + 39), .ref (B + 40), .ref (B + 41), .int (nI (nW + 1)), .ref (B + 42), .int hi, .ref (B + 43), .int (nI nM), .ref (B + 44), .ref (B + 45), .ref (B + 46)])) := f56
        have f53 : w55 42 = some (kl_aI G 10 ((fun t => nI ((kl_nup wt nW k) t)))) := (fr57 _ (by decide)).trans f53
        have frm : ∀ j : Nat, j ≠ 26 → j ≠ 42 → w55 j = w j := fun j k0 k1 => (fr57 j k0).trans (frm j k0 k1)
        refine lv_aload_n hx hb dX5_word_95 rfl (lv_at hl 1 rfl) ?_
        refine kl_get (C := RX5) (T := TX5) (N := 31) (ci := 5) hx hb hts hinX5 hown hK hP f56 rfl 23 (by decide) (hts (.fieldLink RX5 124 "KinLedgerModel" "waiting" "I") (by decide +kernel)) (fun _ h9 => h9) rfl dX5_word_96 ?_
        exact kl_iret hx hb hr hlocks hP (Or.inr (Or.inr (⟨hok, by omega, rfl, f56, ⟨k, rfl, hk, f53⟩, frm⟩))) dX5_word_99
      · refine lv_iconst (v := nI 2) hx hb dX5_word_58 (by decide) ?_
        refine lv_goto (tgt := 63) hx hb dX5_word_59 (by decide) ?_
        refine kl_put (C := RX5) (T := TX5) (N := 31) (ci := 5) (v := .int (nI 2)) (ty := .int) hx hb hts hinX5 tyX5 tyX5_ok nmX5 hown hK hP q26 rfl 0 (by decide) (hts (.fieldLink RX5 71 "KinLedgerModel" "code" "I") (by decide +kernel)) (fun _ h9 => h9) rfl (by decide +kernel) rfl rfl (Nat.le_of_ble_eq_true rfl) dX5_word_63 (fun w58 H locs f59 fr60 hzw58 hP => ?_)
        have f59 : w58 26 = some (.inr (5, [.int (nI 2), .int rs, .int (nI nT), .ref (B + 27), .int (nI n), .ref (B + 28), .ref (B + 29), .int (nI on), .ref (B + 30), .ref (B + 31), .ref (B + 32), .int (nI nL), .ref (B + 33), .ref (B + 34), .ref (B + 35), .ref (B + 36), .int (nI nS), .ref (B + 37), .ref (B + 38), .int (nI nC), .ref (B + 39), .ref (B + 40), .ref (B + 41), .int (nI nW), .ref (B + 42), .int hi, .ref (B + 43), .int (nI nM), .ref (B + 44), .ref (B + 45), .ref (B + 46)])) := f59
        have q42 : w58 42 = some (kl_aI G 10 ((fun t => nI (wt t)))) := (fr60 _ (by decide)).trans q42
        have frm : ∀ j : Nat, j ≠ 26 → j ≠ 42 → w58 j = w j := fun j k0 k1 => (fr60 j k0).trans (frm j k0 k1)
        refine lv_aload_n hx hb dX5_word_66 rfl (lv_at hl 1 rfl) ?_
        refine kl_get (C := RX5) (T := TX5) (N := 31) (ci := 5) hx hb hts hinX5 hown hK hP f59 rfl 0 (by decide) (hts (.fieldLink RX5 71 "KinLedgerModel" "code" "I") (by decide +kernel)) (fun _ h9 => h9) rfl dX5_word_67 ?_
        refine kl_z_le (tgt := 75) hx hb (by omega) dX5_word_70 (by decide) (fun c70 => absurd c70 (by omega)) (fun c70 => ?_)
        refine lv_iconst (v := nI 0) hx hb dX5_word_73 (by decide) ?_
        exact kl_iret hx hb hr hlocks hP (Or.inr (Or.inl (⟨hok, by omega, f59, q42, frm⟩))) dX5_word_74
    · refine lv_iload_n hx hb dX5_word_9 rfl (lv_at hl 1 rfl) ?_
      refine lv_bipush (v := nI 10) hx hb dX5_word_10 (by decide) ?_
      refine lv_icmp_lt (tgt := 21) hx hb dX5_word_12 (by decide) (fun c12 => ?_) (fun c12 => ?_)
      · refine lv_iload_n hx hb dX5_word_21 rfl (lv_at hl 1 rfl) ?_
        refine lv_bipush (v := nI 100) hx hb dX5_word_22 (by decide) ?_
        refine lv_icmp_lt (tgt := 38) hx hb dX5_word_24 (by decide) (fun c24 => ?_) (fun c24 => ?_)
        · have hnk : ¬ mt_word x := by unfold mt_word; grind
          refine lv_iconst (v := nI 0) hx hb dX5_word_38 (by decide) ?_
          refine lv_istore_n (lv' := [(2, .int (nI 0)), (0, .ref (B + 26)), (1, .int x)]) hx hb dX5_word_39 rfl hl (by decide) rfl (fun ls hl => ?_)
          refine lv_aload_n hx hb dX5_word_40 rfl (lv_at hl 1 rfl) ?_
          refine lv_iload_n hx hb dX5_word_41 rfl (lv_at hl 0 rfl) ?_
          refine kl_z_ne (tgt := 49) hx hb (by omega) dX5_word_42 (by decide) (fun c42 => absurd c42 (by omega)) (fun c42 => ?_)
          refine lv_iconst (v := nI 1) hx hb dX5_word_45 (by decide) ?_
          refine lv_goto (tgt := 63) hx hb dX5_word_46 (by decide) ?_
          refine kl_put (C := RX5) (T := TX5) (N := 31) (ci := 5) (v := .int (nI 1)) (ty := .int) hx hb hts hinX5 tyX5 tyX5_ok nmX5 hown hK hP q26 rfl 0 (by decide) (hts (.fieldLink RX5 71 "KinLedgerModel" "code" "I") (by decide +kernel)) (fun _ h9 => h9) rfl (by decide +kernel) rfl rfl (Nat.le_of_ble_eq_true rfl) dX5_word_63 (fun w61 H locs f62 fr63 hzw61 hP => ?_)
          have f62 : w61 26 = some (.inr (5, [.int (nI 1), .int rs, .int (nI nT), .ref (B + 27), .int (nI n), .ref (B + 28), .ref (B + 29), .int (nI on), .ref (B + 30), .ref (B + 31), .ref (B + 32), .int (nI nL), .ref (B + 33), .ref (B + 34), .ref (B + 35), .ref (B + 36), .int (nI nS), .ref (B + 37), .ref (B + 38), .int (nI nC), .ref (B + 39), .ref (B + 40), .ref (B + 41), .int (nI nW), .ref (B + 42), .int hi, .ref (B + 43), .int (nI nM), .ref (B + 44), .ref (B + 45), .ref (B + 46)])) := f62
          have q42 : w61 42 = some (kl_aI G 10 ((fun t => nI (wt t)))) := (fr63 _ (by decide)).trans q42
          have frm : ∀ j : Nat, j ≠ 26 → j ≠ 42 → w61 j = w j := fun j k0 k1 => (fr63 j k0).trans (frm j k0 k1)
          refine lv_aload_n hx hb dX5_word_66 rfl (lv_at hl 1 rfl) ?_
          refine kl_get (C := RX5) (T := TX5) (N := 31) (ci := 5) hx hb hts hinX5 hown hK hP f62 rfl 0 (by decide) (hts (.fieldLink RX5 71 "KinLedgerModel" "code" "I") (by decide +kernel)) (fun _ h9 => h9) rfl dX5_word_67 ?_
          refine kl_z_le (tgt := 75) hx hb (by omega) dX5_word_70 (by decide) (fun c70 => absurd c70 (by omega)) (fun c70 => ?_)
          refine lv_iconst (v := nI 0) hx hb dX5_word_73 (by decide) ?_
          exact kl_iret hx hb hr hlocks hP (Or.inl (⟨hnk, f62, q42, frm⟩)) dX5_word_74
        · refine lv_iload_n hx hb dX5_word_27 rfl (lv_at hl 1 rfl) ?_
          refine lv_sipush (v := nI 300) hx hb dX5_word_28 (by decide) ?_
          refine lv_icmp_gt (tgt := 38) hx hb dX5_word_31 (by decide) (fun c31 => ?_) (fun c31 => ?_)
          · have hnk : ¬ mt_word x := by unfold mt_word; grind
            refine lv_iconst (v := nI 0) hx hb dX5_word_38 (by decide) ?_
            refine lv_istore_n (lv' := [(2, .int (nI 0)), (0, .ref (B + 26)), (1, .int x)]) hx hb dX5_word_39 rfl hl (by decide) rfl (fun ls hl => ?_)
            refine lv_aload_n hx hb dX5_word_40 rfl (lv_at hl 1 rfl) ?_
            refine lv_iload_n hx hb dX5_word_41 rfl (lv_at hl 0 rfl) ?_
            refine kl_z_ne (tgt := 49) hx hb (by omega) dX5_word_42 (by decide) (fun c42 => absurd c42 (by omega)) (fun c42 => ?_)
            refine lv_iconst (v := nI 1) hx hb dX5_word_45 (by decide) ?_
            refine lv_goto (tgt := 63) hx hb dX5_word_46 (by decide) ?_
            refine kl_put (C := RX5) (T := TX5) (N := 31) (ci := 5) (v := .int (nI 1)) (ty := .int) hx hb hts hinX5 tyX5 tyX5_ok nmX5 hown hK hP q26 rfl 0 (by decide) (hts (.fieldLink RX5 71 "KinLedgerModel" "code" "I") (by decide +kernel)) (fun _ h9 => h9) rfl (by decide +kernel) rfl rfl (Nat.le_of_ble_eq_true rfl) dX5_word_63 (fun w64 H locs f65 fr66 hzw64 hP => ?_)
            have f65 : w64 26 = some (.inr (5, [.int (nI 1), .int rs, .int (nI nT), .ref (B + 27), .int (nI n), .ref (B + 28), .ref (B + 29), .int (nI on), .ref (B + 30), .ref (B + 31), .ref (B + 32), .int (nI nL), .ref (B + 33), .ref (B + 34), .ref (B + 35), .ref (B + 36), .int (nI nS), .ref (B + 37), .ref (B + 38), .int (nI nC), .ref (B + 39), .ref (B + 40), .ref (B + 41), .int (nI nW), .ref (B + 42), .int hi, .ref (B + 43), .int (nI nM), .ref (B + 44), .ref (B + 45), .ref (B + 46)])) := f65
            have q42 : w64 42 = some (kl_aI G 10 ((fun t => nI (wt t)))) := (fr66 _ (by decide)).trans q42
            have frm : ∀ j : Nat, j ≠ 26 → j ≠ 42 → w64 j = w j := fun j k0 k1 => (fr66 j k0).trans (frm j k0 k1)
            refine lv_aload_n hx hb dX5_word_66 rfl (lv_at hl 1 rfl) ?_
            refine kl_get (C := RX5) (T := TX5) (N := 31) (ci := 5) hx hb hts hinX5 hown hK hP f65 rfl 0 (by decide) (hts (.fieldLink RX5 71 "KinLedgerModel" "code" "I") (by decide +kernel)) (fun _ h9 => h9) rfl dX5_word_67 ?_
            refine kl_z_le (tgt := 75) hx hb (by omega) dX5_word_70 (by decide) (fun c70 => absurd c70 (by omega)) (fun c70 => ?_)
            refine lv_iconst (v := nI 0) hx hb dX5_word_73 (by decide) ?_
            exact kl_iret hx hb hr hlocks hP (Or.inl (⟨hnk, f65, q42, frm⟩)) dX5_word_74
          · have hok : mt_word x := by unfold mt_word; grind
            refine lv_iconst (v := nI 1) hx hb dX5_word_34 (by decide) ?_
            refine lv_goto (tgt := 39) hx hb dX5_word_35 (by decide) ?_
            refine lv_istore_n (lv' := [(2, .int (nI 1)), (0, .ref (B + 26)), (1, .int x)]) hx hb dX5_word_39 rfl hl (by decide) rfl (fun ls hl => ?_)
            refine lv_aload_n hx hb dX5_word_40 rfl (lv_at hl 1 rfl) ?_
            refine lv_iload_n hx hb dX5_word_41 rfl (lv_at hl 0 rfl) ?_
            refine kl_z_ne (tgt := 49) hx hb (by omega) dX5_word_42 (by decide) (fun c42 => ?_) (fun c42 => absurd c42 (by omega))
            refine lv_aload_n hx hb dX5_word_49 rfl (lv_at hl 1 rfl) ?_
            refine kl_get (C := RX5) (T := TX5) (N := 31) (ci := 5) hx hb hts hinX5 hown hK hP q26 rfl 23 (by decide) (hts (.fieldLink RX5 124 "KinLedgerModel" "waiting" "I") (by decide +kernel)) (fun _ h9 => h9) rfl dX5_word_50 ?_
            refine lv_bipush (v := nI 10) hx hb dX5_word_53 (by decide) ?_
            refine kl_ne (tgt := 62) hx hb (by omega) (by omega) dX5_word_55 (by decide) (fun c55 => ?_) (fun c55 => ?_)
            · refine lv_iconst (v := nI 0) hx hb dX5_word_62 (by decide) ?_
              refine kl_put (C := RX5) (T := TX5) (N := 31) (ci := 5) (v := .int (nI 0)) (ty := .int) hx hb hts hinX5 tyX5 tyX5_ok nmX5 hown hK hP q26 rfl 0 (by decide) (hts (.fieldLink RX5 71 "KinLedgerModel" "code" "I") (by decide +kernel)) (fun _ h9 => h9) rfl (by decide +kernel) rfl rfl (Nat.le_of_ble_eq_true rfl) dX5_word_63 (fun w67 H locs f68 fr69 hzw67 hP => ?_)
              have f68 : w67 26 = some (.inr (5, [.int (nI 0), .int rs, .int (nI nT), .ref (B + 27), .int (nI n), .ref (B + 28), .ref (B + 29), .int (nI on), .ref (B + 30), .ref (B + 31), .ref (B + 32), .int (nI nL), .ref (B + 33), .ref (B + 34), .ref (B + 35), .ref (B + 36), .int (nI nS), .ref (B + 37), .ref (B + 38), .int (nI nC), .ref (B + 39), .ref (B + 40), .ref (B + 41), .int (nI nW), .ref (B + 42), .int hi, .ref (B + 43), .int (nI nM), .ref (B + 44), .ref (B + 45), .ref (B + 46)])) := f68
              have q42 : w67 42 = some (kl_aI G 10 ((fun t => nI (wt t)))) := (fr69 _ (by decide)).trans q42
              have frm : ∀ j : Nat, j ≠ 26 → j ≠ 42 → w67 j = w j := fun j k0 k1 => (fr69 j k0).trans (frm j k0 k1)
              refine lv_aload_n hx hb dX5_word_66 rfl (lv_at hl 1 rfl) ?_
              refine kl_get (C := RX5) (T := TX5) (N := 31) (ci := 5) hx hb hts hinX5 hown hK hP f68 rfl 0 (by decide) (hts (.fieldLink RX5 71 "KinLedgerModel" "code" "I") (by decide +kernel)) (fun _ h9 => h9) rfl dX5_word_67 ?_
              refine kl_z_le (tgt := 75) hx hb (by omega) dX5_word_70 (by decide) (fun c70 => ?_) (fun c70 => absurd c70 (by omega))
              obtain ⟨k, rfl, hk⟩ := mt_word_nat hok
              refine lv_aload_n hx hb dX5_word_75 rfl (lv_at hl 1 rfl) ?_
              refine kl_get (C := RX5) (T := TX5) (N := 31) (ci := 5) hx hb hts hinX5 hown hK hP f68 rfl 24 (by decide) (hts (.fieldLink RX5 56 "KinLedgerModel" "words" "[I") (by decide +kernel)) (fun _ h9 => h9) rfl dX5_word_76 ?_
              refine lv_aload_n hx hb dX5_word_79 rfl (lv_at hl 1 rfl) ?_
              refine kl_get (C := RX5) (T := TX5) (N := 31) (ci := 5) hx hb hts hinX5 hown hK hP f68 rfl 23 (by decide) (hts (.fieldLink RX5 124 "KinLedgerModel" "waiting" "I") (by decide +kernel)) (fun _ h9 => h9) rfl dX5_word_80 ?_
              refine lv_iload_n hx hb dX5_word_83 rfl (lv_at hl 2 rfl) ?_
              refine kl_iast hx hb hK hP q42 (by omega) (by omega) dX5_word_84 (fun w70 H locs f71 fr72 hzw70 hP => ?_)
              rw [kl_nup_upd] at f71
              have f68 : w70 26 = some (.inr (5, [.int (nI 0), .int rs, .int (nI nT), .ref (B + 27), .int (nI n), .ref (B + 28), .ref (B + 29), .int (nI on), .ref (B + 30), .ref (B + 31), .ref (B + 32), .int (nI nL), .ref (B + 33), .ref (B + 34), .ref (B + 35), .ref (B + 36), .int (nI nS), .ref (B + 37), .ref (B + 38), .int (nI nC), .ref (B + 39), .ref (B + 40), .ref (B + 41), .int (nI nW), .ref (B + 42), .int hi, .ref (B + 43), .int (nI nM), .ref (B + 44), .ref (B + 45), .ref (B + 46)])) := (fr72 _ (by decide)).trans f68
              have frm : ∀ j : Nat, j ≠ 26 → j ≠ 42 → w70 j = w j := fun j k0 k1 => (fr72 j k1).trans (frm j k0 k1)
              refine lv_aload_n hx hb dX5_word_85 rfl (lv_at hl 1 rfl) ?_
              refine lv_dup hx hb dX5_word_86 rfl ?_
              refine kl_get (C := RX5) (T := TX5) (N := 31) (ci := 5) hx hb hts hinX5 hown hK hP f68 rfl 23 (by decide) (hts (.fieldLink RX5 124 "KinLedgerModel" "waiting" "I") (by decide +kernel)) (fun _ h9 => h9) rfl dX5_word_87 ?_
              refine lv_iconst (v := nI 1) hx hb dX5_word_90 (by decide) ?_
              refine lv_iadd hx hb dX5_word_91 ?_
              refine kl_top (z := nI (nW + 1)) (by first | exact nI_add _ _ | (rw [nI_add]; first | rfl | (congr 1; omega))) ?_
              refine kl_put (C := RX5) (T := TX5) (N := 31) (ci := 5) (v := .int (nI (nW + 1))) (ty := .int) hx hb hts hinX5 tyX5 tyX5_ok nmX5 hown hK hP f68 rfl 23 (by decide) (hts (.fieldLink RX5 124 "KinLedgerModel" "waiting" "I") (by decide +kernel)) (fun _ h9 => h9) rfl (by decide +kernel) rfl rfl (Nat.le_of_ble_eq_true rfl) dX5_word_92 (fun w73 H locs f74 fr75 hzw73 hP => ?_)
              have f74 : w73 26 = some (.inr (5, [.int (nI 0), .int rs, .int (nI nT), .ref (B + 27), .int (nI n), .ref (B + 28), .ref (B + 29), .int (nI on), .ref (B + 30), .ref (B + 31), .ref (B + 32), .int (nI nL), .ref (B + 33), .ref (B + 34), .ref (B + 35), .ref (B + 36), .int (nI nS), .ref (B + 37), .ref (B + 38), .int (nI nC), .ref (B + 39), .ref (B + 40), .ref (B + 41), .int (nI (nW + 1)), .ref (B + 42), .int hi, .ref (B + 43), .int (nI nM), .ref (B + 44), .ref (B + 45), .ref (B + 46)])) := f74
              have f71 : w73 42 = some (kl_aI G 10 ((fun t => nI ((kl_nup wt nW k) t)))) := (fr75 _ (by decide)).trans f71
              have frm : ∀ j : Nat, j ≠ 26 → j ≠ 42 → w73 j = w j := fun j k0 k1 => (fr75 j k0).trans (frm j k0 k1)
              refine lv_aload_n hx hb dX5_word_95 rfl (lv_at hl 1 rfl) ?_
              refine kl_get (C := RX5) (T := TX5) (N := 31) (ci := 5) hx hb hts hinX5 hown hK hP f74 rfl 23 (by decide) (hts (.fieldLink RX5 124 "KinLedgerModel" "waiting" "I") (by decide +kernel)) (fun _ h9 => h9) rfl dX5_word_96 ?_
              exact kl_iret hx hb hr hlocks hP (Or.inr (Or.inr (⟨hok, by omega, rfl, f74, ⟨k, rfl, hk, f71⟩, frm⟩))) dX5_word_99
            · refine lv_iconst (v := nI 2) hx hb dX5_word_58 (by decide) ?_
              refine lv_goto (tgt := 63) hx hb dX5_word_59 (by decide) ?_
              refine kl_put (C := RX5) (T := TX5) (N := 31) (ci := 5) (v := .int (nI 2)) (ty := .int) hx hb hts hinX5 tyX5 tyX5_ok nmX5 hown hK hP q26 rfl 0 (by decide) (hts (.fieldLink RX5 71 "KinLedgerModel" "code" "I") (by decide +kernel)) (fun _ h9 => h9) rfl (by decide +kernel) rfl rfl (Nat.le_of_ble_eq_true rfl) dX5_word_63 (fun w76 H locs f77 fr78 hzw76 hP => ?_)
              have f77 : w76 26 = some (.inr (5, [.int (nI 2), .int rs, .int (nI nT), .ref (B + 27), .int (nI n), .ref (B + 28), .ref (B + 29), .int (nI on), .ref (B + 30), .ref (B + 31), .ref (B + 32), .int (nI nL), .ref (B + 33), .ref (B + 34), .ref (B + 35), .ref (B + 36), .int (nI nS), .ref (B + 37), .ref (B + 38), .int (nI nC), .ref (B + 39), .ref (B + 40), .ref (B + 41), .int (nI nW), .ref (B + 42), .int hi, .ref (B + 43), .int (nI nM), .ref (B + 44), .ref (B + 45), .ref (B + 46)])) := f77
              have q42 : w76 42 = some (kl_aI G 10 ((fun t => nI (wt t)))) := (fr78 _ (by decide)).trans q42
              have frm : ∀ j : Nat, j ≠ 26 → j ≠ 42 → w76 j = w j := fun j k0 k1 => (fr78 j k0).trans (frm j k0 k1)
              refine lv_aload_n hx hb dX5_word_66 rfl (lv_at hl 1 rfl) ?_
              refine kl_get (C := RX5) (T := TX5) (N := 31) (ci := 5) hx hb hts hinX5 hown hK hP f77 rfl 0 (by decide) (hts (.fieldLink RX5 71 "KinLedgerModel" "code" "I") (by decide +kernel)) (fun _ h9 => h9) rfl dX5_word_67 ?_
              refine kl_z_le (tgt := 75) hx hb (by omega) dX5_word_70 (by decide) (fun c70 => absurd c70 (by omega)) (fun c70 => ?_)
              refine lv_iconst (v := nI 0) hx hb dX5_word_73 (by decide) ?_
              exact kl_iret hx hb hr hlocks hP (Or.inr (Or.inl (⟨hok, by omega, f77, q42, frm⟩))) dX5_word_74
      · refine lv_iload_n hx hb dX5_word_15 rfl (lv_at hl 1 rfl) ?_
        refine lv_bipush (v := nI 17) hx hb dX5_word_16 (by decide) ?_
        refine lv_icmp_le (tgt := 34) hx hb dX5_word_18 (by decide) (fun c18 => ?_) (fun c18 => ?_)
        · have hok : mt_word x := by unfold mt_word; grind
          refine lv_iconst (v := nI 1) hx hb dX5_word_34 (by decide) ?_
          refine lv_goto (tgt := 39) hx hb dX5_word_35 (by decide) ?_
          refine lv_istore_n (lv' := [(2, .int (nI 1)), (0, .ref (B + 26)), (1, .int x)]) hx hb dX5_word_39 rfl hl (by decide) rfl (fun ls hl => ?_)
          refine lv_aload_n hx hb dX5_word_40 rfl (lv_at hl 1 rfl) ?_
          refine lv_iload_n hx hb dX5_word_41 rfl (lv_at hl 0 rfl) ?_
          refine kl_z_ne (tgt := 49) hx hb (by omega) dX5_word_42 (by decide) (fun c42 => ?_) (fun c42 => absurd c42 (by omega))
          refine lv_aload_n hx hb dX5_word_49 rfl (lv_at hl 1 rfl) ?_
          refine kl_get (C := RX5) (T := TX5) (N := 31) (ci := 5) hx hb hts hinX5 hown hK hP q26 rfl 23 (by decide) (hts (.fieldLink RX5 124 "KinLedgerModel" "waiting" "I") (by decide +kernel)) (fun _ h9 => h9) rfl dX5_word_50 ?_
          refine lv_bipush (v := nI 10) hx hb dX5_word_53 (by decide) ?_
          refine kl_ne (tgt := 62) hx hb (by omega) (by omega) dX5_word_55 (by decide) (fun c55 => ?_) (fun c55 => ?_)
          · refine lv_iconst (v := nI 0) hx hb dX5_word_62 (by decide) ?_
            refine kl_put (C := RX5) (T := TX5) (N := 31) (ci := 5) (v := .int (nI 0)) (ty := .int) hx hb hts hinX5 tyX5 tyX5_ok nmX5 hown hK hP q26 rfl 0 (by decide) (hts (.fieldLink RX5 71 "KinLedgerModel" "code" "I") (by decide +kernel)) (fun _ h9 => h9) rfl (by decide +kernel) rfl rfl (Nat.le_of_ble_eq_true rfl) dX5_word_63 (fun w79 H locs f80 fr81 hzw79 hP => ?_)
            have f80 : w79 26 = some (.inr (5, [.int (nI 0), .int rs, .int (nI nT), .ref (B + 27), .int (nI n), .ref (B + 28), .ref (B + 29), .int (nI on), .ref (B + 30), .ref (B + 31), .ref (B + 32), .int (nI nL), .ref (B + 33), .ref (B + 34), .ref (B + 35), .ref (B + 36), .int (nI nS), .ref (B + 37), .ref (B + 38), .int (nI nC), .ref (B + 39), .ref (B + 40), .ref (B + 41), .int (nI nW), .ref (B + 42), .int hi, .ref (B + 43), .int (nI nM), .ref (B + 44), .ref (B + 45), .ref (B + 46)])) := f80
            have q42 : w79 42 = some (kl_aI G 10 ((fun t => nI (wt t)))) := (fr81 _ (by decide)).trans q42
            have frm : ∀ j : Nat, j ≠ 26 → j ≠ 42 → w79 j = w j := fun j k0 k1 => (fr81 j k0).trans (frm j k0 k1)
            refine lv_aload_n hx hb dX5_word_66 rfl (lv_at hl 1 rfl) ?_
            refine kl_get (C := RX5) (T := TX5) (N := 31) (ci := 5) hx hb hts hinX5 hown hK hP f80 rfl 0 (by decide) (hts (.fieldLink RX5 71 "KinLedgerModel" "code" "I") (by decide +kernel)) (fun _ h9 => h9) rfl dX5_word_67 ?_
            refine kl_z_le (tgt := 75) hx hb (by omega) dX5_word_70 (by decide) (fun c70 => ?_) (fun c70 => absurd c70 (by omega))
            obtain ⟨k, rfl, hk⟩ := mt_word_nat hok
            refine lv_aload_n hx hb dX5_word_75 rfl (lv_at hl 1 rfl) ?_
            refine kl_get (C := RX5) (T := TX5) (N := 31) (ci := 5) hx hb hts hinX5 hown hK hP f80 rfl 24 (by decide) (hts (.fieldLink RX5 56 "KinLedgerModel" "words" "[I") (by decide +kernel)) (fun _ h9 => h9) rfl dX5_word_76 ?_
            refine lv_aload_n hx hb dX5_word_79 rfl (lv_at hl 1 rfl) ?_
            refine kl_get (C := RX5) (T := TX5) (N := 31) (ci := 5) hx hb hts hinX5 hown hK hP f80 rfl 23 (by decide) (hts (.fieldLink RX5 124 "KinLedgerModel" "waiting" "I") (by decide +kernel)) (fun _ h9 => h9) rfl dX5_word_80 ?_
            refine lv_iload_n hx hb dX5_word_83 rfl (lv_at hl 2 rfl) ?_
            refine kl_iast hx hb hK hP q42 (by omega) (by omega) dX5_word_84 (fun w82 H locs f83 fr84 hzw82 hP => ?_)
            rw [kl_nup_upd] at f83
            have f80 : w82 26 = some (.inr (5, [.int (nI 0), .int rs, .int (nI nT), .ref (B + 27), .int (nI n), .ref (B + 28), .ref (B + 29), .int (nI on), .ref (B + 30), .ref (B + 31), .ref (B + 32), .int (nI nL), .ref (B + 33), .ref (B + 34), .ref (B + 35), .ref (B + 36), .int (nI nS), .ref (B + 37), .ref (B + 38), .int (nI nC), .ref (B + 39), .ref (B + 40), .ref (B + 41), .int (nI nW), .ref (B + 42), .int hi, .ref (B + 43), .int (nI nM), .ref (B + 44), .ref (B + 45), .ref (B + 46)])) := (fr84 _ (by decide)).trans f80
            have frm : ∀ j : Nat, j ≠ 26 → j ≠ 42 → w82 j = w j := fun j k0 k1 => (fr84 j k1).trans (frm j k0 k1)
            refine lv_aload_n hx hb dX5_word_85 rfl (lv_at hl 1 rfl) ?_
            refine lv_dup hx hb dX5_word_86 rfl ?_
            refine kl_get (C := RX5) (T := TX5) (N := 31) (ci := 5) hx hb hts hinX5 hown hK hP f80 rfl 23 (by decide) (hts (.fieldLink RX5 124 "KinLedgerModel" "waiting" "I") (by decide +kernel)) (fun _ h9 => h9) rfl dX5_word_87 ?_
            refine lv_iconst (v := nI 1) hx hb dX5_word_90 (by decide) ?_
            refine lv_iadd hx hb dX5_word_91 ?_
            refine kl_top (z := nI (nW + 1)) (by first | exact nI_add _ _ | (rw [nI_add]; first | rfl | (congr 1; omega))) ?_
            refine kl_put (C := RX5) (T := TX5) (N := 31) (ci := 5) (v := .int (nI (nW + 1))) (ty := .int) hx hb hts hinX5 tyX5 tyX5_ok nmX5 hown hK hP f80 rfl 23 (by decide) (hts (.fieldLink RX5 124 "KinLedgerModel" "waiting" "I") (by decide +kernel)) (fun _ h9 => h9) rfl (by decide +kernel) rfl rfl (Nat.le_of_ble_eq_true rfl) dX5_word_92 (fun w85 H locs f86 fr87 hzw85 hP => ?_)
            have f86 : w85 26 = some (.inr (5, [.int (nI 0), .int rs, .int (nI nT), .ref (B + 27), .int (nI n), .ref (B + 28), .ref (B + 29), .int (nI on), .ref (B + 30), .ref (B + 31), .ref (B + 32), .int (nI nL), .ref (B + 33), .ref (B + 34), .ref (B + 35), .ref (B + 36), .int (nI nS), .ref (B + 37), .ref (B + 38), .int (nI nC), .ref (B + 39), .ref (B + 40), .ref (B + 41), .int (nI (nW + 1)), .ref (B + 42), .int hi, .ref (B + 43), .int (nI nM), .ref (B + 44), .ref (B + 45), .ref (B + 46)])) := f86
            have f83 : w85 42 = some (kl_aI G 10 ((fun t => nI ((kl_nup wt nW k) t)))) := (fr87 _ (by decide)).trans f83
            have frm : ∀ j : Nat, j ≠ 26 → j ≠ 42 → w85 j = w j := fun j k0 k1 => (fr87 j k0).trans (frm j k0 k1)
            refine lv_aload_n hx hb dX5_word_95 rfl (lv_at hl 1 rfl) ?_
            refine kl_get (C := RX5) (T := TX5) (N := 31) (ci := 5) hx hb hts hinX5 hown hK hP f86 rfl 23 (by decide) (hts (.fieldLink RX5 124 "KinLedgerModel" "waiting" "I") (by decide +kernel)) (fun _ h9 => h9) rfl dX5_word_96 ?_
            exact kl_iret hx hb hr hlocks hP (Or.inr (Or.inr (⟨hok, by omega, rfl, f86, ⟨k, rfl, hk, f83⟩, frm⟩))) dX5_word_99
          · refine lv_iconst (v := nI 2) hx hb dX5_word_58 (by decide) ?_
            refine lv_goto (tgt := 63) hx hb dX5_word_59 (by decide) ?_
            refine kl_put (C := RX5) (T := TX5) (N := 31) (ci := 5) (v := .int (nI 2)) (ty := .int) hx hb hts hinX5 tyX5 tyX5_ok nmX5 hown hK hP q26 rfl 0 (by decide) (hts (.fieldLink RX5 71 "KinLedgerModel" "code" "I") (by decide +kernel)) (fun _ h9 => h9) rfl (by decide +kernel) rfl rfl (Nat.le_of_ble_eq_true rfl) dX5_word_63 (fun w88 H locs f89 fr90 hzw88 hP => ?_)
            have f89 : w88 26 = some (.inr (5, [.int (nI 2), .int rs, .int (nI nT), .ref (B + 27), .int (nI n), .ref (B + 28), .ref (B + 29), .int (nI on), .ref (B + 30), .ref (B + 31), .ref (B + 32), .int (nI nL), .ref (B + 33), .ref (B + 34), .ref (B + 35), .ref (B + 36), .int (nI nS), .ref (B + 37), .ref (B + 38), .int (nI nC), .ref (B + 39), .ref (B + 40), .ref (B + 41), .int (nI nW), .ref (B + 42), .int hi, .ref (B + 43), .int (nI nM), .ref (B + 44), .ref (B + 45), .ref (B + 46)])) := f89
            have q42 : w88 42 = some (kl_aI G 10 ((fun t => nI (wt t)))) := (fr90 _ (by decide)).trans q42
            have frm : ∀ j : Nat, j ≠ 26 → j ≠ 42 → w88 j = w j := fun j k0 k1 => (fr90 j k0).trans (frm j k0 k1)
            refine lv_aload_n hx hb dX5_word_66 rfl (lv_at hl 1 rfl) ?_
            refine kl_get (C := RX5) (T := TX5) (N := 31) (ci := 5) hx hb hts hinX5 hown hK hP f89 rfl 0 (by decide) (hts (.fieldLink RX5 71 "KinLedgerModel" "code" "I") (by decide +kernel)) (fun _ h9 => h9) rfl dX5_word_67 ?_
            refine kl_z_le (tgt := 75) hx hb (by omega) dX5_word_70 (by decide) (fun c70 => absurd c70 (by omega)) (fun c70 => ?_)
            refine lv_iconst (v := nI 0) hx hb dX5_word_73 (by decide) ?_
            exact kl_iret hx hb hr hlocks hP (Or.inr (Or.inl (⟨hok, by omega, f89, q42, frm⟩))) dX5_word_74
        · refine lv_iload_n hx hb dX5_word_21 rfl (lv_at hl 1 rfl) ?_
          refine lv_bipush (v := nI 100) hx hb dX5_word_22 (by decide) ?_
          refine lv_icmp_lt (tgt := 38) hx hb dX5_word_24 (by decide) (fun c24 => ?_) (fun c24 => ?_)
          · have hnk : ¬ mt_word x := by unfold mt_word; grind
            refine lv_iconst (v := nI 0) hx hb dX5_word_38 (by decide) ?_
            refine lv_istore_n (lv' := [(2, .int (nI 0)), (0, .ref (B + 26)), (1, .int x)]) hx hb dX5_word_39 rfl hl (by decide) rfl (fun ls hl => ?_)
            refine lv_aload_n hx hb dX5_word_40 rfl (lv_at hl 1 rfl) ?_
            refine lv_iload_n hx hb dX5_word_41 rfl (lv_at hl 0 rfl) ?_
            refine kl_z_ne (tgt := 49) hx hb (by omega) dX5_word_42 (by decide) (fun c42 => absurd c42 (by omega)) (fun c42 => ?_)
            refine lv_iconst (v := nI 1) hx hb dX5_word_45 (by decide) ?_
            refine lv_goto (tgt := 63) hx hb dX5_word_46 (by decide) ?_
            refine kl_put (C := RX5) (T := TX5) (N := 31) (ci := 5) (v := .int (nI 1)) (ty := .int) hx hb hts hinX5 tyX5 tyX5_ok nmX5 hown hK hP q26 rfl 0 (by decide) (hts (.fieldLink RX5 71 "KinLedgerModel" "code" "I") (by decide +kernel)) (fun _ h9 => h9) rfl (by decide +kernel) rfl rfl (Nat.le_of_ble_eq_true rfl) dX5_word_63 (fun w91 H locs f92 fr93 hzw91 hP => ?_)
            have f92 : w91 26 = some (.inr (5, [.int (nI 1), .int rs, .int (nI nT), .ref (B + 27), .int (nI n), .ref (B + 28), .ref (B + 29), .int (nI on), .ref (B + 30), .ref (B + 31), .ref (B + 32), .int (nI nL), .ref (B + 33), .ref (B + 34), .ref (B + 35), .ref (B + 36), .int (nI nS), .ref (B + 37), .ref (B + 38), .int (nI nC), .ref (B + 39), .ref (B + 40), .ref (B + 41), .int (nI nW), .ref (B + 42), .int hi, .ref (B + 43), .int (nI nM), .ref (B + 44), .ref (B + 45), .ref (B + 46)])) := f92
            have q42 : w91 42 = some (kl_aI G 10 ((fun t => nI (wt t)))) := (fr93 _ (by decide)).trans q42
            have frm : ∀ j : Nat, j ≠ 26 → j ≠ 42 → w91 j = w j := fun j k0 k1 => (fr93 j k0).trans (frm j k0 k1)
            refine lv_aload_n hx hb dX5_word_66 rfl (lv_at hl 1 rfl) ?_
            refine kl_get (C := RX5) (T := TX5) (N := 31) (ci := 5) hx hb hts hinX5 hown hK hP f92 rfl 0 (by decide) (hts (.fieldLink RX5 71 "KinLedgerModel" "code" "I") (by decide +kernel)) (fun _ h9 => h9) rfl dX5_word_67 ?_
            refine kl_z_le (tgt := 75) hx hb (by omega) dX5_word_70 (by decide) (fun c70 => absurd c70 (by omega)) (fun c70 => ?_)
            refine lv_iconst (v := nI 0) hx hb dX5_word_73 (by decide) ?_
            exact kl_iret hx hb hr hlocks hP (Or.inl (⟨hnk, f92, q42, frm⟩)) dX5_word_74
          · refine lv_iload_n hx hb dX5_word_27 rfl (lv_at hl 1 rfl) ?_
            refine lv_sipush (v := nI 300) hx hb dX5_word_28 (by decide) ?_
            refine lv_icmp_gt (tgt := 38) hx hb dX5_word_31 (by decide) (fun c31 => ?_) (fun c31 => ?_)
            · have hnk : ¬ mt_word x := by unfold mt_word; grind
              refine lv_iconst (v := nI 0) hx hb dX5_word_38 (by decide) ?_
              refine lv_istore_n (lv' := [(2, .int (nI 0)), (0, .ref (B + 26)), (1, .int x)]) hx hb dX5_word_39 rfl hl (by decide) rfl (fun ls hl => ?_)
              refine lv_aload_n hx hb dX5_word_40 rfl (lv_at hl 1 rfl) ?_
              refine lv_iload_n hx hb dX5_word_41 rfl (lv_at hl 0 rfl) ?_
              refine kl_z_ne (tgt := 49) hx hb (by omega) dX5_word_42 (by decide) (fun c42 => absurd c42 (by omega)) (fun c42 => ?_)
              refine lv_iconst (v := nI 1) hx hb dX5_word_45 (by decide) ?_
              refine lv_goto (tgt := 63) hx hb dX5_word_46 (by decide) ?_
              refine kl_put (C := RX5) (T := TX5) (N := 31) (ci := 5) (v := .int (nI 1)) (ty := .int) hx hb hts hinX5 tyX5 tyX5_ok nmX5 hown hK hP q26 rfl 0 (by decide) (hts (.fieldLink RX5 71 "KinLedgerModel" "code" "I") (by decide +kernel)) (fun _ h9 => h9) rfl (by decide +kernel) rfl rfl (Nat.le_of_ble_eq_true rfl) dX5_word_63 (fun w94 H locs f95 fr96 hzw94 hP => ?_)
              have f95 : w94 26 = some (.inr (5, [.int (nI 1), .int rs, .int (nI nT), .ref (B + 27), .int (nI n), .ref (B + 28), .ref (B + 29), .int (nI on), .ref (B + 30), .ref (B + 31), .ref (B + 32), .int (nI nL), .ref (B + 33), .ref (B + 34), .ref (B + 35), .ref (B + 36), .int (nI nS), .ref (B + 37), .ref (B + 38), .int (nI nC), .ref (B + 39), .ref (B + 40), .ref (B + 41), .int (nI nW), .ref (B + 42), .int hi, .ref (B + 43), .int (nI nM), .ref (B + 44), .ref (B + 45), .ref (B + 46)])) := f95
              have q42 : w94 42 = some (kl_aI G 10 ((fun t => nI (wt t)))) := (fr96 _ (by decide)).trans q42
              have frm : ∀ j : Nat, j ≠ 26 → j ≠ 42 → w94 j = w j := fun j k0 k1 => (fr96 j k0).trans (frm j k0 k1)
              refine lv_aload_n hx hb dX5_word_66 rfl (lv_at hl 1 rfl) ?_
              refine kl_get (C := RX5) (T := TX5) (N := 31) (ci := 5) hx hb hts hinX5 hown hK hP f95 rfl 0 (by decide) (hts (.fieldLink RX5 71 "KinLedgerModel" "code" "I") (by decide +kernel)) (fun _ h9 => h9) rfl dX5_word_67 ?_
              refine kl_z_le (tgt := 75) hx hb (by omega) dX5_word_70 (by decide) (fun c70 => absurd c70 (by omega)) (fun c70 => ?_)
              refine lv_iconst (v := nI 0) hx hb dX5_word_73 (by decide) ?_
              exact kl_iret hx hb hr hlocks hP (Or.inl (⟨hnk, f95, q42, frm⟩)) dX5_word_74
            · have hok : mt_word x := by unfold mt_word; grind
              refine lv_iconst (v := nI 1) hx hb dX5_word_34 (by decide) ?_
              refine lv_goto (tgt := 39) hx hb dX5_word_35 (by decide) ?_
              refine lv_istore_n (lv' := [(2, .int (nI 1)), (0, .ref (B + 26)), (1, .int x)]) hx hb dX5_word_39 rfl hl (by decide) rfl (fun ls hl => ?_)
              refine lv_aload_n hx hb dX5_word_40 rfl (lv_at hl 1 rfl) ?_
              refine lv_iload_n hx hb dX5_word_41 rfl (lv_at hl 0 rfl) ?_
              refine kl_z_ne (tgt := 49) hx hb (by omega) dX5_word_42 (by decide) (fun c42 => ?_) (fun c42 => absurd c42 (by omega))
              refine lv_aload_n hx hb dX5_word_49 rfl (lv_at hl 1 rfl) ?_
              refine kl_get (C := RX5) (T := TX5) (N := 31) (ci := 5) hx hb hts hinX5 hown hK hP q26 rfl 23 (by decide) (hts (.fieldLink RX5 124 "KinLedgerModel" "waiting" "I") (by decide +kernel)) (fun _ h9 => h9) rfl dX5_word_50 ?_
              refine lv_bipush (v := nI 10) hx hb dX5_word_53 (by decide) ?_
              refine kl_ne (tgt := 62) hx hb (by omega) (by omega) dX5_word_55 (by decide) (fun c55 => ?_) (fun c55 => ?_)
              · refine lv_iconst (v := nI 0) hx hb dX5_word_62 (by decide) ?_
                refine kl_put (C := RX5) (T := TX5) (N := 31) (ci := 5) (v := .int (nI 0)) (ty := .int) hx hb hts hinX5 tyX5 tyX5_ok nmX5 hown hK hP q26 rfl 0 (by decide) (hts (.fieldLink RX5 71 "KinLedgerModel" "code" "I") (by decide +kernel)) (fun _ h9 => h9) rfl (by decide +kernel) rfl rfl (Nat.le_of_ble_eq_true rfl) dX5_word_63 (fun w97 H locs f98 fr99 hzw97 hP => ?_)
                have f98 : w97 26 = some (.inr (5, [.int (nI 0), .int rs, .int (nI nT), .ref (B + 27), .int (nI n), .ref (B + 28), .ref (B + 29), .int (nI on), .ref (B + 30), .ref (B + 31), .ref (B + 32), .int (nI nL), .ref (B + 33), .ref (B + 34), .ref (B + 35), .ref (B + 36), .int (nI nS), .ref (B + 37), .ref (B + 38), .int (nI nC), .ref (B + 39), .ref (B + 40), .ref (B + 41), .int (nI nW), .ref (B + 42), .int hi, .ref (B + 43), .int (nI nM), .ref (B + 44), .ref (B + 45), .ref (B + 46)])) := f98
                have q42 : w97 42 = some (kl_aI G 10 ((fun t => nI (wt t)))) := (fr99 _ (by decide)).trans q42
                have frm : ∀ j : Nat, j ≠ 26 → j ≠ 42 → w97 j = w j := fun j k0 k1 => (fr99 j k0).trans (frm j k0 k1)
                refine lv_aload_n hx hb dX5_word_66 rfl (lv_at hl 1 rfl) ?_
                refine kl_get (C := RX5) (T := TX5) (N := 31) (ci := 5) hx hb hts hinX5 hown hK hP f98 rfl 0 (by decide) (hts (.fieldLink RX5 71 "KinLedgerModel" "code" "I") (by decide +kernel)) (fun _ h9 => h9) rfl dX5_word_67 ?_
                refine kl_z_le (tgt := 75) hx hb (by omega) dX5_word_70 (by decide) (fun c70 => ?_) (fun c70 => absurd c70 (by omega))
                obtain ⟨k, rfl, hk⟩ := mt_word_nat hok
                refine lv_aload_n hx hb dX5_word_75 rfl (lv_at hl 1 rfl) ?_
                refine kl_get (C := RX5) (T := TX5) (N := 31) (ci := 5) hx hb hts hinX5 hown hK hP f98 rfl 24 (by decide) (hts (.fieldLink RX5 56 "KinLedgerModel" "words" "[I") (by decide +kernel)) (fun _ h9 => h9) rfl dX5_word_76 ?_
                refine lv_aload_n hx hb dX5_word_79 rfl (lv_at hl 1 rfl) ?_
                refine kl_get (C := RX5) (T := TX5) (N := 31) (ci := 5) hx hb hts hinX5 hown hK hP f98 rfl 23 (by decide) (hts (.fieldLink RX5 124 "KinLedgerModel" "waiting" "I") (by decide +kernel)) (fun _ h9 => h9) rfl dX5_word_80 ?_
                refine lv_iload_n hx hb dX5_word_83 rfl (lv_at hl 2 rfl) ?_
                refine kl_iast hx hb hK hP q42 (by omega) (by omega) dX5_word_84 (fun w100 H locs f101 fr102 hzw100 hP => ?_)
                rw [kl_nup_upd] at f101
                have f98 : w100 26 = some (.inr (5, [.int (nI 0), .int rs, .int (nI nT), .ref (B + 27), .int (nI n), .ref (B + 28), .ref (B + 29), .int (nI on), .ref (B + 30), .ref (B + 31), .ref (B + 32), .int (nI nL), .ref (B + 33), .ref (B + 34), .ref (B + 35), .ref (B + 36), .int (nI nS), .ref (B + 37), .ref (B + 38), .int (nI nC), .ref (B + 39), .ref (B + 40), .ref (B + 41), .int (nI nW), .ref (B + 42), .int hi, .ref (B + 43), .int (nI nM), .ref (B + 44), .ref (B + 45), .ref (B + 46)])) := (fr102 _ (by decide)).trans f98
                have frm : ∀ j : Nat, j ≠ 26 → j ≠ 42 → w100 j = w j := fun j k0 k1 => (fr102 j k1).trans (frm j k0 k1)
                refine lv_aload_n hx hb dX5_word_85 rfl (lv_at hl 1 rfl) ?_
                refine lv_dup hx hb dX5_word_86 rfl ?_
                refine kl_get (C := RX5) (T := TX5) (N := 31) (ci := 5) hx hb hts hinX5 hown hK hP f98 rfl 23 (by decide) (hts (.fieldLink RX5 124 "KinLedgerModel" "waiting" "I") (by decide +kernel)) (fun _ h9 => h9) rfl dX5_word_87 ?_
                refine lv_iconst (v := nI 1) hx hb dX5_word_90 (by decide) ?_
                refine lv_iadd hx hb dX5_word_91 ?_
                refine kl_top (z := nI (nW + 1)) (by first | exact nI_add _ _ | (rw [nI_add]; first | rfl | (congr 1; omega))) ?_
                refine kl_put (C := RX5) (T := TX5) (N := 31) (ci := 5) (v := .int (nI (nW + 1))) (ty := .int) hx hb hts hinX5 tyX5 tyX5_ok nmX5 hown hK hP f98 rfl 23 (by decide) (hts (.fieldLink RX5 124 "KinLedgerModel" "waiting" "I") (by decide +kernel)) (fun _ h9 => h9) rfl (by decide +kernel) rfl rfl (Nat.le_of_ble_eq_true rfl) dX5_word_92 (fun w103 H locs f104 fr105 hzw103 hP => ?_)
                have f104 : w103 26 = some (.inr (5, [.int (nI 0), .int rs, .int (nI nT), .ref (B + 27), .int (nI n), .ref (B + 28), .ref (B + 29), .int (nI on), .ref (B + 30), .ref (B + 31), .ref (B + 32), .int (nI nL), .ref (B + 33), .ref (B + 34), .ref (B + 35), .ref (B + 36), .int (nI nS), .ref (B + 37), .ref (B + 38), .int (nI nC), .ref (B + 39), .ref (B + 40), .ref (B + 41), .int (nI (nW + 1)), .ref (B + 42), .int hi, .ref (B + 43), .int (nI nM), .ref (B + 44), .ref (B + 45), .ref (B + 46)])) := f104
                have f101 : w103 42 = some (kl_aI G 10 ((fun t => nI ((kl_nup wt nW k) t)))) := (fr105 _ (by decide)).trans f101
                have frm : ∀ j : Nat, j ≠ 26 → j ≠ 42 → w103 j = w j := fun j k0 k1 => (fr105 j k0).trans (frm j k0 k1)
                refine lv_aload_n hx hb dX5_word_95 rfl (lv_at hl 1 rfl) ?_
                refine kl_get (C := RX5) (T := TX5) (N := 31) (ci := 5) hx hb hts hinX5 hown hK hP f104 rfl 23 (by decide) (hts (.fieldLink RX5 124 "KinLedgerModel" "waiting" "I") (by decide +kernel)) (fun _ h9 => h9) rfl dX5_word_96 ?_
                exact kl_iret hx hb hr hlocks hP (Or.inr (Or.inr (⟨hok, by omega, rfl, f104, ⟨k, rfl, hk, f101⟩, frm⟩))) dX5_word_99
              · refine lv_iconst (v := nI 2) hx hb dX5_word_58 (by decide) ?_
                refine lv_goto (tgt := 63) hx hb dX5_word_59 (by decide) ?_
                refine kl_put (C := RX5) (T := TX5) (N := 31) (ci := 5) (v := .int (nI 2)) (ty := .int) hx hb hts hinX5 tyX5 tyX5_ok nmX5 hown hK hP q26 rfl 0 (by decide) (hts (.fieldLink RX5 71 "KinLedgerModel" "code" "I") (by decide +kernel)) (fun _ h9 => h9) rfl (by decide +kernel) rfl rfl (Nat.le_of_ble_eq_true rfl) dX5_word_63 (fun w106 H locs f107 fr108 hzw106 hP => ?_)
                have f107 : w106 26 = some (.inr (5, [.int (nI 2), .int rs, .int (nI nT), .ref (B + 27), .int (nI n), .ref (B + 28), .ref (B + 29), .int (nI on), .ref (B + 30), .ref (B + 31), .ref (B + 32), .int (nI nL), .ref (B + 33), .ref (B + 34), .ref (B + 35), .ref (B + 36), .int (nI nS), .ref (B + 37), .ref (B + 38), .int (nI nC), .ref (B + 39), .ref (B + 40), .ref (B + 41), .int (nI nW), .ref (B + 42), .int hi, .ref (B + 43), .int (nI nM), .ref (B + 44), .ref (B + 45), .ref (B + 46)])) := f107
                have q42 : w106 42 = some (kl_aI G 10 ((fun t => nI (wt t)))) := (fr108 _ (by decide)).trans q42
                have frm : ∀ j : Nat, j ≠ 26 → j ≠ 42 → w106 j = w j := fun j k0 k1 => (fr108 j k0).trans (frm j k0 k1)
                refine lv_aload_n hx hb dX5_word_66 rfl (lv_at hl 1 rfl) ?_
                refine kl_get (C := RX5) (T := TX5) (N := 31) (ci := 5) hx hb hts hinX5 hown hK hP f107 rfl 0 (by decide) (hts (.fieldLink RX5 71 "KinLedgerModel" "code" "I") (by decide +kernel)) (fun _ h9 => h9) rfl dX5_word_67 ?_
                refine kl_z_le (tgt := 75) hx hb (by omega) dX5_word_70 (by decide) (fun c70 => absurd c70 (by omega)) (fun c70 => ?_)
                refine lv_iconst (v := nI 0) hx hb dX5_word_73 (by decide) ?_
                exact kl_iret hx hb hr hlocks hP (Or.inr (Or.inl (⟨hok, by omega, f107, q42, frm⟩))) dX5_word_74

abbrev rm_X5_isRight : Room := { frames := 0, cells := 0, slots := 0, locals := 0 }
set_option maxHeartbeats 4000000 in
set_option maxRecDepth 100000 in
theorem c_X5_isRight (l : Launch) (G : kl_G) (B : Nat) (w : kl_M) {nT nL nS nC nW nM n on : Nat} {ec rs hi : Int32} {cn wt : Nat → Nat} (tj : Nat) (q26 : w 26 = some (.inr (5, [.int ec, .int rs, .int (nI nT), .ref (B + 27), .int (nI n), .ref (B + 28), .ref (B + 29), .int (nI on), .ref (B + 30), .ref (B + 31), .ref (B + 32), .int (nI nL), .ref (B + 33), .ref (B + 34), .ref (B + 35), .ref (B + 36), .int (nI nS), .ref (B + 37), .ref (B + 38), .int (nI nC), .ref (B + 39), .ref (B + 40), .ref (B + 41), .int (nI nW), .ref (B + 42), .int hi, .ref (B + 43), .int (nI nM), .ref (B + 44), .ref (B + 45), .ref (B + 46)]))) (q27 : w 27 = some (kl_aI G 4 ((fun t => nI (cn t))))) (q42 : w 42 = some (kl_aI G 10 ((fun t => nI (wt t))))) (htj : tj < nT) (hnT : nT ≤ 4) (hn : nW ≤ 10) (hc4 : cn tj ≤ 4) (hwt : ∀ i, i < nW → mt_wok (wt i)) : Met l yX5_isRight wsX5_isRight rm_X5_isRight (kl_Pc G B w [.ref (B + 26), .int (nI tj)]) (kl_Qi G B (fun r w1 => w = w1 ∧ kl_b r (mt_right wt (cn tj) nW))) 0 0 (kl_fr B) := by
  refine Met.ofW (cc := cX5_isRight) (maxL := 8) (ret := (some .boolean)) (by decide) rfl ?_
  intro pg e s m args below meth cd s₁ Bd hml hv
  obtain ⟨rfl, hP0, hK⟩ := hv
  have hx := Bd.exec
  have hb := Bd.bytes
  have hr := Bd.returns
  have hts := atoms_spec (ws := wsX5_isRight) Bd.pre
  have hown : s.vm.findClass RX5 = some m.cls := findClass_of_methodNamed Bd.named
  have hlocks := Bd.notSynchronized
  have hinX5 : ∀ w ∈ u_ws RX5 TX5 31, w ∈ wsX5_isRight := by decide +kernel
  have hP := kl_S.rf hP0
  have hl := lv_entry ([.ref (B + 26), .int (nI tj)]) (n := 8) (Nat.le_of_ble_eq_true rfl)
  rw [lg_entry_eq]
  generalize (lg_sl ([.ref (B + 26), .int (nI tj)]) ++ List.replicate (8 - (lg_sl ([.ref (B + 26), .int (nI tj)])).length) Slot.unset).toArray = ls at hl ⊢
  have hl : lv_has ls 8 [(0, .ref (B + 26)), (1, .int (nI tj))] := hl
  refine lv_iconst (v := nI 0) hx hb dX5_isRight_0 (by decide) ?_
  refine lv_istore_n (lv' := [(2, .int (nI 0)), (0, .ref (B + 26)), (1, .int (nI tj))]) hx hb dX5_isRight_1 rfl hl (by decide) rfl (fun ls hl => ?_)
  refine lv_iconst (v := nI 1) hx hb dX5_isRight_2 (by decide) ?_
  refine lv_istore_n (lv' := [(3, .int (nI 1)), (2, .int (nI 0)), (0, .ref (B + 26)), (1, .int (nI tj))]) hx hb dX5_isRight_3 rfl hl (by decide) rfl (fun ls hl => ?_)
  refine lv_iconst (v := nI 0) hx hb dX5_isRight_4 (by decide) ?_
  refine lv_istore (lv' := [(4, .int (nI 0)), (3, .int (nI 1)), (2, .int (nI 0)), (0, .ref (B + 26)), (1, .int (nI tj))]) hx hb dX5_isRight_5 hl (by decide) rfl (fun ls hl => ?_)
  have lp7 : ∀ (n7 : Nat) (u : Nat) (on9 : Int32) (rv : Int32), nW - u < n7 → (u ≤ nW) → ((rv = nI 1 ∧ ∃ h, mt_h wt (cn tj) u = some h ∧ on9 = nI h) ∨ (rv = nI 0 ∧ mt_h wt (cn tj) u = none)) → ∀ (H : Heap) (locs : List Loc), kl_S G B w s.heap H locs → ∀ ls : Array Slot, lv_has ls 8 [(0, .ref (B + 26)), (1, .int (nI tj)), (2, .int on9), (3, .int rv), (4, .int (nI u))] → W pg l e rm_X5_isRight s m ([.ref (B + 26), .int (nI tj)] : List Value).toArray below meth cd H locs (0) (0) (MQ below (kl_Qi G B (fun r w1 => w = w1 ∧ kl_b r (mt_right wt (cn tj) nW))) ([.ref (B + 26), .int (nI tj)] : List Value).toArray s 0 0 (kl_fr B)) (F0 m 7 ls []) := by
    intro n7
    induction n7 with
    | zero => intro u on9 rv hm; exact absurd hm (Nat.not_lt_zero _)
    | succ n7 ih7 =>
      intro u on9 rv hm hu hr9 H locs  hP ls hl
      rcases hr9 with ⟨rfl, h, hh, rfl⟩ | ⟨rfl, hh⟩
      · have hlu := mt_h_le hh
        refine lv_iload hx hb dX5_isRight_7 (lv_at hl 4 rfl) ?_
        refine lv_aload_n hx hb dX5_isRight_9 rfl (lv_at hl 0 rfl) ?_
        refine kl_get (C := RX5) (T := TX5) (N := 31) (ci := 5) hx hb hts hinX5 hown hK hP q26 rfl 23 (by decide) (hts (.fieldLink RX5 124 "KinLedgerModel" "waiting" "I") (by decide +kernel)) (fun _ h9 => h9) rfl dX5_isRight_10 ?_
        refine kl_ge (tgt := 114) hx hb (by omega) (by omega) dX5_isRight_13 (by decide) (fun c13 => ?_) (fun c13 => ?_)
        · refine lv_iload_n hx hb dX5_isRight_114 rfl (lv_at hl 3 rfl) ?_
          refine kl_z_eq (tgt := 127) hx hb (by omega) dX5_isRight_115 (by decide) (fun c115 => absurd c115 (by omega)) (fun c115 => ?_)
          refine lv_iload_n hx hb dX5_isRight_118 rfl (lv_at hl 2 rfl) ?_
          refine lv_iconst (v := nI 1) hx hb dX5_isRight_119 (by decide) ?_
          refine kl_ne (tgt := 127) hx hb (by omega) (by omega) dX5_isRight_120 (by decide) (fun c120 => ?_) (fun c120 => ?_)
          · refine lv_iconst (v := nI 0) hx hb dX5_isRight_127 (by decide) ?_
            exact kl_zret hx hb hr hlocks (by decide) hP ⟨rfl, kl_b.f (fun z => c120 (by have z : mt_h wt (cn tj) nW = some 1 := z; rw [show nW = u by omega, hh] at z; exact Option.some.inj z))⟩ dX5_isRight_128
          · refine lv_iconst (v := nI 1) hx hb dX5_isRight_123 (by decide) ?_
            refine lv_goto (tgt := 128) hx hb dX5_isRight_124 (by decide) ?_
            exact kl_zret hx hb hr hlocks (by decide) hP ⟨rfl, kl_b.t (by show mt_h wt (cn tj) nW = some 1; rw [show nW = u by omega, hh, c120])⟩ dX5_isRight_128
        · have hwo := hwt u (by omega)
          have hwl : wt u < 2 ^ 30 := mt_wok_lt hwo
          unfold mt_wok at hwo
          refine lv_aload_n hx hb dX5_isRight_16 rfl (lv_at hl 0 rfl) ?_
          refine kl_get (C := RX5) (T := TX5) (N := 31) (ci := 5) hx hb hts hinX5 hown hK hP q26 rfl 24 (by decide) (hts (.fieldLink RX5 56 "KinLedgerModel" "words" "[I") (by decide +kernel)) (fun _ h9 => h9) rfl dX5_isRight_17 ?_
          refine lv_iload hx hb dX5_isRight_20 (lv_at hl 4 rfl) ?_
          refine kl_iald hx hb hK hP q42 (by omega) (by omega) dX5_isRight_22 ?_
          refine kl_top (z := nI (wt u)) rfl ?_
          refine lv_istore (lv' := [(5, .int (nI (wt u))), (0, .ref (B + 26)), (1, .int (nI tj)), (2, .int (nI h)), (3, .int (nI 1)), (4, .int (nI u))]) hx hb dX5_isRight_23 hl (by decide) rfl (fun ls hl => ?_)
          refine lv_iload hx hb dX5_isRight_25 (lv_at hl 0 rfl) ?_
          refine lv_iconst (v := nI 4) hx hb dX5_isRight_27 (by decide) ?_
          refine kl_lt (tgt := 38) hx hb (by omega) (by omega) dX5_isRight_28 (by decide) (fun c28 => ?_) (fun c28 => ?_)
          · refine lv_iconst (v := nI 1) hx hb dX5_isRight_38 (by decide) ?_
            refine lv_goto (tgt := 43) hx hb dX5_isRight_39 (by decide) ?_
            refine lv_istore (lv' := [(6, .int (nI 1)), (5, .int (nI (wt u))), (0, .ref (B + 26)), (1, .int (nI tj)), (2, .int (nI h)), (3, .int (nI 1)), (4, .int (nI u))]) hx hb dX5_isRight_43 hl (by decide) rfl (fun ls hl => ?_)
            refine lv_iload hx hb dX5_isRight_45 (lv_at hl 0 rfl) ?_
            refine kl_z_eq (tgt := 54) hx hb (by omega) dX5_isRight_47 (by decide) (fun c47 => absurd c47 (by omega)) (fun c47 => ?_)
            refine lv_iconst (v := nI 0) hx hb dX5_isRight_50 (by decide) ?_
            refine lv_goto (tgt := 66) hx hb dX5_isRight_51 (by decide) ?_
            refine lv_istore (lv' := [(7, .int (nI 0)), (6, .int (nI 1)), (5, .int (nI (wt u))), (0, .ref (B + 26)), (1, .int (nI tj)), (2, .int (nI h)), (3, .int (nI 1)), (4, .int (nI u))]) hx hb dX5_isRight_66 hl (by decide) rfl (fun ls hl => ?_)
            have hkt : mt_tk (wt u) = 0 := by unfold mt_tk; exact if_pos (by omega)
            refine lv_iload_n hx hb dX5_isRight_68 rfl (lv_at hl 6 rfl) ?_
            refine kl_z_eq (tgt := 99) hx hb (by omega) dX5_isRight_69 (by decide) (fun c69 => absurd c69 (by omega)) (fun c69 => ?_)
            refine lv_iload_n hx hb dX5_isRight_72 rfl (lv_at hl 5 rfl) ?_
            refine lv_iload hx hb dX5_isRight_73 (lv_at hl 0 rfl) ?_
            refine kl_lt (tgt := 99) hx hb (by omega) (by omega) dX5_isRight_75 (by decide) (fun c75 => absurd c75 (by omega)) (fun c75 => ?_)
            refine lv_iload hx hb dX5_isRight_78 (lv_at hl 2 rfl) ?_
            refine lv_iconst (v := nI 4) hx hb dX5_isRight_80 (by decide) ?_
            refine kl_ge (tgt := 95) hx hb (by omega) (by omega) dX5_isRight_81 (by decide) (fun c81 => ?_) (fun c81 => ?_)
            · refine lv_iconst (v := nI 1) hx hb dX5_isRight_95 (by decide) ?_
              refine lv_goto (tgt := 100) hx hb dX5_isRight_96 (by decide) ?_
              refine lv_istore_n (lv' := [(3, .int (nI 1)), (7, .int (nI 0)), (6, .int (nI 1)), (5, .int (nI (wt u))), (0, .ref (B + 26)), (1, .int (nI tj)), (2, .int (nI h)), (4, .int (nI u))]) hx hb dX5_isRight_100 rfl hl (by decide) rfl (fun ls hl => ?_)
              refine lv_iload_n hx hb dX5_isRight_101 rfl (lv_at hl 6 rfl) ?_
              refine lv_iconst (v := nI 1) hx hb dX5_isRight_102 (by decide) ?_
              refine lv_iload hx hb dX5_isRight_103 (lv_at hl 1 rfl) ?_
              refine lv_isub hx hb dX5_isRight_105 ?_
              refine lv_iadd hx hb dX5_isRight_106 ?_
              refine lv_istore_n (lv' := [(2, .int ((nI h) + (nI 1 - nI 0))), (3, .int (nI 1)), (7, .int (nI 0)), (6, .int (nI 1)), (5, .int (nI (wt u))), (0, .ref (B + 26)), (1, .int (nI tj)), (4, .int (nI u))]) hx hb dX5_isRight_107 rfl hl (by decide) rfl (fun ls hl => ?_)
              refine lv_iinc (v := nI (u + 1)) (lv' := [(4, .int (nI (u + 1))), (2, .int ((nI h) + (nI 1 - nI 0))), (3, .int (nI 1)), (7, .int (nI 0)), (6, .int (nI 1)), (5, .int (nI (wt u))), (0, .ref (B + 26)), (1, .int (nI tj))]) hx hb dX5_isRight_108 hl (k := 7) rfl (nI_1 _) (by decide) rfl (fun ls hl => ?_)
              refine lv_goto (tgt := 7) hx hb dX5_isRight_111 (by decide) ?_
              exact ih7 (u + 1) ((nI h) + (nI 1 - nI 0)) (nI 1) (by omega) (by first | omega | grind) (Or.inl ⟨rfl, h + 1 - mt_tk (wt u), mt_h_step hh (by omega), by rw [hkt]; exact mt_hs (by omega)⟩) _ _ hP ls (lv_sub hl [6, 7, 1, 2, 0] rfl)
            · refine lv_iload hx hb dX5_isRight_84 (lv_at hl 2 rfl) ?_
              refine lv_aload_n hx hb dX5_isRight_86 rfl (lv_at hl 3 rfl) ?_
              refine kl_get (C := RX5) (T := TX5) (N := 31) (ci := 5) hx hb hts hinX5 hown hK hP q26 rfl 3 (by decide) (hts (.fieldLink RX5 7 "KinLedgerModel" "columns" "[I") (by decide +kernel)) (fun _ h9 => h9) rfl dX5_isRight_87 ?_
              refine lv_iload_n hx hb dX5_isRight_90 rfl (lv_at hl 4 rfl) ?_
              refine kl_iald hx hb hK hP q27 (by omega) (by omega) dX5_isRight_91 ?_
              refine kl_top (z := nI (cn tj)) rfl ?_
              refine kl_ge (tgt := 99) hx hb (by omega) (by omega) dX5_isRight_92 (by decide) (fun c92 => ?_) (fun c92 => ?_)
              · refine lv_iconst (v := nI 0) hx hb dX5_isRight_99 (by decide) ?_
                refine lv_istore_n (lv' := [(3, .int (nI 0)), (7, .int (nI 0)), (6, .int (nI 1)), (5, .int (nI (wt u))), (0, .ref (B + 26)), (1, .int (nI tj)), (2, .int (nI h)), (4, .int (nI u))]) hx hb dX5_isRight_100 rfl hl (by decide) rfl (fun ls hl => ?_)
                refine lv_iload_n hx hb dX5_isRight_101 rfl (lv_at hl 6 rfl) ?_
                refine lv_iconst (v := nI 1) hx hb dX5_isRight_102 (by decide) ?_
                refine lv_iload hx hb dX5_isRight_103 (lv_at hl 1 rfl) ?_
                refine lv_isub hx hb dX5_isRight_105 ?_
                refine lv_iadd hx hb dX5_isRight_106 ?_
                refine lv_istore_n (lv' := [(2, .int ((nI h) + (nI 1 - nI 0))), (3, .int (nI 0)), (7, .int (nI 0)), (6, .int (nI 1)), (5, .int (nI (wt u))), (0, .ref (B + 26)), (1, .int (nI tj)), (4, .int (nI u))]) hx hb dX5_isRight_107 rfl hl (by decide) rfl (fun ls hl => ?_)
                refine lv_iinc (v := nI (u + 1)) (lv' := [(4, .int (nI (u + 1))), (2, .int ((nI h) + (nI 1 - nI 0))), (3, .int (nI 0)), (7, .int (nI 0)), (6, .int (nI 1)), (5, .int (nI (wt u))), (0, .ref (B + 26)), (1, .int (nI tj))]) hx hb dX5_isRight_108 hl (k := 7) rfl (nI_1 _) (by decide) rfl (fun ls hl => ?_)
                refine lv_goto (tgt := 7) hx hb dX5_isRight_111 (by decide) ?_
                exact ih7 (u + 1) ((nI h) + (nI 1 - nI 0)) (nI 0) (by omega) (by first | omega | grind) (Or.inr ⟨rfl, mt_h_bad hh (by omega)⟩) _ _ hP ls (lv_sub hl [6, 7, 1, 2, 0] rfl)
              · refine lv_iconst (v := nI 1) hx hb dX5_isRight_95 (by decide) ?_
                refine lv_goto (tgt := 100) hx hb dX5_isRight_96 (by decide) ?_
                refine lv_istore_n (lv' := [(3, .int (nI 1)), (7, .int (nI 0)), (6, .int (nI 1)), (5, .int (nI (wt u))), (0, .ref (B + 26)), (1, .int (nI tj)), (2, .int (nI h)), (4, .int (nI u))]) hx hb dX5_isRight_100 rfl hl (by decide) rfl (fun ls hl => ?_)
                refine lv_iload_n hx hb dX5_isRight_101 rfl (lv_at hl 6 rfl) ?_
                refine lv_iconst (v := nI 1) hx hb dX5_isRight_102 (by decide) ?_
                refine lv_iload hx hb dX5_isRight_103 (lv_at hl 1 rfl) ?_
                refine lv_isub hx hb dX5_isRight_105 ?_
                refine lv_iadd hx hb dX5_isRight_106 ?_
                refine lv_istore_n (lv' := [(2, .int ((nI h) + (nI 1 - nI 0))), (3, .int (nI 1)), (7, .int (nI 0)), (6, .int (nI 1)), (5, .int (nI (wt u))), (0, .ref (B + 26)), (1, .int (nI tj)), (4, .int (nI u))]) hx hb dX5_isRight_107 rfl hl (by decide) rfl (fun ls hl => ?_)
                refine lv_iinc (v := nI (u + 1)) (lv' := [(4, .int (nI (u + 1))), (2, .int ((nI h) + (nI 1 - nI 0))), (3, .int (nI 1)), (7, .int (nI 0)), (6, .int (nI 1)), (5, .int (nI (wt u))), (0, .ref (B + 26)), (1, .int (nI tj))]) hx hb dX5_isRight_108 hl (k := 7) rfl (nI_1 _) (by decide) rfl (fun ls hl => ?_)
                refine lv_goto (tgt := 7) hx hb dX5_isRight_111 (by decide) ?_
                exact ih7 (u + 1) ((nI h) + (nI 1 - nI 0)) (nI 1) (by omega) (by first | omega | grind) (Or.inl ⟨rfl, h + 1 - mt_tk (wt u), mt_h_step hh (by omega), by rw [hkt]; exact mt_hs (by omega)⟩) _ _ hP ls (lv_sub hl [6, 7, 1, 2, 0] rfl)
          · refine lv_iload hx hb dX5_isRight_31 (lv_at hl 0 rfl) ?_
            refine lv_bipush (v := nI 100) hx hb dX5_isRight_33 (by decide) ?_
            refine kl_lt (tgt := 42) hx hb (by omega) (by omega) dX5_isRight_35 (by decide) (fun c35 => ?_) (fun c35 => ?_)
            · refine lv_iconst (v := nI 0) hx hb dX5_isRight_42 (by decide) ?_
              refine lv_istore (lv' := [(6, .int (nI 0)), (5, .int (nI (wt u))), (0, .ref (B + 26)), (1, .int (nI tj)), (2, .int (nI h)), (3, .int (nI 1)), (4, .int (nI u))]) hx hb dX5_isRight_43 hl (by decide) rfl (fun ls hl => ?_)
              refine lv_iload hx hb dX5_isRight_45 (lv_at hl 0 rfl) ?_
              refine kl_z_eq (tgt := 54) hx hb (by omega) dX5_isRight_47 (by decide) (fun c47 => ?_) (fun c47 => absurd c47 (by omega))
              refine lv_iload hx hb dX5_isRight_54 (lv_at hl 1 rfl) ?_
              refine lv_bipush (v := nI 17) hx hb dX5_isRight_56 (by decide) ?_
              refine kl_ne (tgt := 65) hx hb (by omega) (by omega) dX5_isRight_58 (by decide) (fun c58 => ?_) (fun c58 => ?_)
              · refine lv_iconst (v := nI 2) hx hb dX5_isRight_65 (by decide) ?_
                refine lv_istore (lv' := [(7, .int (nI 2)), (6, .int (nI 0)), (5, .int (nI (wt u))), (0, .ref (B + 26)), (1, .int (nI tj)), (2, .int (nI h)), (3, .int (nI 1)), (4, .int (nI u))]) hx hb dX5_isRight_66 hl (by decide) rfl (fun ls hl => ?_)
                have hkt : mt_tk (wt u) = 2 := by unfold mt_tk; rw [if_neg (by omega)]; exact if_neg c58
                refine lv_iload_n hx hb dX5_isRight_68 rfl (lv_at hl 6 rfl) ?_
                refine kl_z_eq (tgt := 99) hx hb (by omega) dX5_isRight_69 (by decide) (fun c69 => absurd c69 (by omega)) (fun c69 => ?_)
                refine lv_iload_n hx hb dX5_isRight_72 rfl (lv_at hl 5 rfl) ?_
                refine lv_iload hx hb dX5_isRight_73 (lv_at hl 0 rfl) ?_
                refine kl_lt (tgt := 99) hx hb (by omega) (by omega) dX5_isRight_75 (by decide) (fun c75 => ?_) (fun c75 => ?_)
                · refine lv_iconst (v := nI 0) hx hb dX5_isRight_99 (by decide) ?_
                  refine lv_istore_n (lv' := [(3, .int (nI 0)), (7, .int (nI 2)), (6, .int (nI 0)), (5, .int (nI (wt u))), (0, .ref (B + 26)), (1, .int (nI tj)), (2, .int (nI h)), (4, .int (nI u))]) hx hb dX5_isRight_100 rfl hl (by decide) rfl (fun ls hl => ?_)
                  refine lv_iload_n hx hb dX5_isRight_101 rfl (lv_at hl 6 rfl) ?_
                  refine lv_iconst (v := nI 1) hx hb dX5_isRight_102 (by decide) ?_
                  refine lv_iload hx hb dX5_isRight_103 (lv_at hl 1 rfl) ?_
                  refine lv_isub hx hb dX5_isRight_105 ?_
                  refine lv_iadd hx hb dX5_isRight_106 ?_
                  refine lv_istore_n (lv' := [(2, .int ((nI h) + (nI 1 - nI 2))), (3, .int (nI 0)), (7, .int (nI 2)), (6, .int (nI 0)), (5, .int (nI (wt u))), (0, .ref (B + 26)), (1, .int (nI tj)), (4, .int (nI u))]) hx hb dX5_isRight_107 rfl hl (by decide) rfl (fun ls hl => ?_)
                  refine lv_iinc (v := nI (u + 1)) (lv' := [(4, .int (nI (u + 1))), (2, .int ((nI h) + (nI 1 - nI 2))), (3, .int (nI 0)), (7, .int (nI 2)), (6, .int (nI 0)), (5, .int (nI (wt u))), (0, .ref (B + 26)), (1, .int (nI tj))]) hx hb dX5_isRight_108 hl (k := 7) rfl (nI_1 _) (by decide) rfl (fun ls hl => ?_)
                  refine lv_goto (tgt := 7) hx hb dX5_isRight_111 (by decide) ?_
                  exact ih7 (u + 1) ((nI h) + (nI 1 - nI 2)) (nI 0) (by omega) (by first | omega | grind) (Or.inr ⟨rfl, mt_h_bad hh (by omega)⟩) _ _ hP ls (lv_sub hl [6, 7, 1, 2, 0] rfl)
                · refine lv_iload hx hb dX5_isRight_78 (lv_at hl 2 rfl) ?_
                  refine lv_iconst (v := nI 4) hx hb dX5_isRight_80 (by decide) ?_
                  refine kl_ge (tgt := 95) hx hb (by omega) (by omega) dX5_isRight_81 (by decide) (fun c81 => ?_) (fun c81 => ?_)
                  · refine lv_iconst (v := nI 1) hx hb dX5_isRight_95 (by decide) ?_
                    refine lv_goto (tgt := 100) hx hb dX5_isRight_96 (by decide) ?_
                    refine lv_istore_n (lv' := [(3, .int (nI 1)), (7, .int (nI 2)), (6, .int (nI 0)), (5, .int (nI (wt u))), (0, .ref (B + 26)), (1, .int (nI tj)), (2, .int (nI h)), (4, .int (nI u))]) hx hb dX5_isRight_100 rfl hl (by decide) rfl (fun ls hl => ?_)
                    refine lv_iload_n hx hb dX5_isRight_101 rfl (lv_at hl 6 rfl) ?_
                    refine lv_iconst (v := nI 1) hx hb dX5_isRight_102 (by decide) ?_
                    refine lv_iload hx hb dX5_isRight_103 (lv_at hl 1 rfl) ?_
                    refine lv_isub hx hb dX5_isRight_105 ?_
                    refine lv_iadd hx hb dX5_isRight_106 ?_
                    refine lv_istore_n (lv' := [(2, .int ((nI h) + (nI 1 - nI 2))), (3, .int (nI 1)), (7, .int (nI 2)), (6, .int (nI 0)), (5, .int (nI (wt u))), (0, .ref (B + 26)), (1, .int (nI tj)), (4, .int (nI u))]) hx hb dX5_isRight_107 rfl hl (by decide) rfl (fun ls hl => ?_)
                    refine lv_iinc (v := nI (u + 1)) (lv' := [(4, .int (nI (u + 1))), (2, .int ((nI h) + (nI 1 - nI 2))), (3, .int (nI 1)), (7, .int (nI 2)), (6, .int (nI 0)), (5, .int (nI (wt u))), (0, .ref (B + 26)), (1, .int (nI tj))]) hx hb dX5_isRight_108 hl (k := 7) rfl (nI_1 _) (by decide) rfl (fun ls hl => ?_)
                    refine lv_goto (tgt := 7) hx hb dX5_isRight_111 (by decide) ?_
                    exact ih7 (u + 1) ((nI h) + (nI 1 - nI 2)) (nI 1) (by omega) (by first | omega | grind) (Or.inl ⟨rfl, h + 1 - mt_tk (wt u), mt_h_step hh (by omega), by rw [hkt]; exact mt_hs (by omega)⟩) _ _ hP ls (lv_sub hl [6, 7, 1, 2, 0] rfl)
                  · refine lv_iload hx hb dX5_isRight_84 (lv_at hl 2 rfl) ?_
                    refine lv_aload_n hx hb dX5_isRight_86 rfl (lv_at hl 3 rfl) ?_
                    refine kl_get (C := RX5) (T := TX5) (N := 31) (ci := 5) hx hb hts hinX5 hown hK hP q26 rfl 3 (by decide) (hts (.fieldLink RX5 7 "KinLedgerModel" "columns" "[I") (by decide +kernel)) (fun _ h9 => h9) rfl dX5_isRight_87 ?_
                    refine lv_iload_n hx hb dX5_isRight_90 rfl (lv_at hl 4 rfl) ?_
                    refine kl_iald hx hb hK hP q27 (by omega) (by omega) dX5_isRight_91 ?_
                    refine kl_top (z := nI (cn tj)) rfl ?_
                    refine kl_ge (tgt := 99) hx hb (by omega) (by omega) dX5_isRight_92 (by decide) (fun c92 => ?_) (fun c92 => ?_)
                    · refine lv_iconst (v := nI 0) hx hb dX5_isRight_99 (by decide) ?_
                      refine lv_istore_n (lv' := [(3, .int (nI 0)), (7, .int (nI 2)), (6, .int (nI 0)), (5, .int (nI (wt u))), (0, .ref (B + 26)), (1, .int (nI tj)), (2, .int (nI h)), (4, .int (nI u))]) hx hb dX5_isRight_100 rfl hl (by decide) rfl (fun ls hl => ?_)
                      refine lv_iload_n hx hb dX5_isRight_101 rfl (lv_at hl 6 rfl) ?_
                      refine lv_iconst (v := nI 1) hx hb dX5_isRight_102 (by decide) ?_
                      refine lv_iload hx hb dX5_isRight_103 (lv_at hl 1 rfl) ?_
                      refine lv_isub hx hb dX5_isRight_105 ?_
                      refine lv_iadd hx hb dX5_isRight_106 ?_
                      refine lv_istore_n (lv' := [(2, .int ((nI h) + (nI 1 - nI 2))), (3, .int (nI 0)), (7, .int (nI 2)), (6, .int (nI 0)), (5, .int (nI (wt u))), (0, .ref (B + 26)), (1, .int (nI tj)), (4, .int (nI u))]) hx hb dX5_isRight_107 rfl hl (by decide) rfl (fun ls hl => ?_)
                      refine lv_iinc (v := nI (u + 1)) (lv' := [(4, .int (nI (u + 1))), (2, .int ((nI h) + (nI 1 - nI 2))), (3, .int (nI 0)), (7, .int (nI 2)), (6, .int (nI 0)), (5, .int (nI (wt u))), (0, .ref (B + 26)), (1, .int (nI tj))]) hx hb dX5_isRight_108 hl (k := 7) rfl (nI_1 _) (by decide) rfl (fun ls hl => ?_)
                      refine lv_goto (tgt := 7) hx hb dX5_isRight_111 (by decide) ?_
                      exact ih7 (u + 1) ((nI h) + (nI 1 - nI 2)) (nI 0) (by omega) (by first | omega | grind) (Or.inr ⟨rfl, mt_h_bad hh (by omega)⟩) _ _ hP ls (lv_sub hl [6, 7, 1, 2, 0] rfl)
                    · refine lv_iconst (v := nI 1) hx hb dX5_isRight_95 (by decide) ?_
                      refine lv_goto (tgt := 100) hx hb dX5_isRight_96 (by decide) ?_
                      refine lv_istore_n (lv' := [(3, .int (nI 1)), (7, .int (nI 2)), (6, .int (nI 0)), (5, .int (nI (wt u))), (0, .ref (B + 26)), (1, .int (nI tj)), (2, .int (nI h)), (4, .int (nI u))]) hx hb dX5_isRight_100 rfl hl (by decide) rfl (fun ls hl => ?_)
                      refine lv_iload_n hx hb dX5_isRight_101 rfl (lv_at hl 6 rfl) ?_
                      refine lv_iconst (v := nI 1) hx hb dX5_isRight_102 (by decide) ?_
                      refine lv_iload hx hb dX5_isRight_103 (lv_at hl 1 rfl) ?_
                      refine lv_isub hx hb dX5_isRight_105 ?_
                      refine lv_iadd hx hb dX5_isRight_106 ?_
                      refine lv_istore_n (lv' := [(2, .int ((nI h) + (nI 1 - nI 2))), (3, .int (nI 1)), (7, .int (nI 2)), (6, .int (nI 0)), (5, .int (nI (wt u))), (0, .ref (B + 26)), (1, .int (nI tj)), (4, .int (nI u))]) hx hb dX5_isRight_107 rfl hl (by decide) rfl (fun ls hl => ?_)
                      refine lv_iinc (v := nI (u + 1)) (lv' := [(4, .int (nI (u + 1))), (2, .int ((nI h) + (nI 1 - nI 2))), (3, .int (nI 1)), (7, .int (nI 2)), (6, .int (nI 0)), (5, .int (nI (wt u))), (0, .ref (B + 26)), (1, .int (nI tj))]) hx hb dX5_isRight_108 hl (k := 7) rfl (nI_1 _) (by decide) rfl (fun ls hl => ?_)
                      refine lv_goto (tgt := 7) hx hb dX5_isRight_111 (by decide) ?_
                      exact ih7 (u + 1) ((nI h) + (nI 1 - nI 2)) (nI 1) (by omega) (by first | omega | grind) (Or.inl ⟨rfl, h + 1 - mt_tk (wt u), mt_h_step hh (by omega), by rw [hkt]; exact mt_hs (by omega)⟩) _ _ hP ls (lv_sub hl [6, 7, 1, 2, 0] rfl)
              · refine lv_iconst (v := nI 1) hx hb dX5_isRight_61 (by decide) ?_
                refine lv_goto (tgt := 66) hx hb dX5_isRight_62 (by decide) ?_
                refine lv_istore (lv' := [(7, .int (nI 1)), (6, .int (nI 0)), (5, .int (nI (wt u))), (0, .ref (B + 26)), (1, .int (nI tj)), (2, .int (nI h)), (3, .int (nI 1)), (4, .int (nI u))]) hx hb dX5_isRight_66 hl (by decide) rfl (fun ls hl => ?_)
                have hkt : mt_tk (wt u) = 1 := by unfold mt_tk; rw [if_neg (by omega)]; exact if_pos c58
                refine lv_iload_n hx hb dX5_isRight_68 rfl (lv_at hl 6 rfl) ?_
                refine kl_z_eq (tgt := 99) hx hb (by omega) dX5_isRight_69 (by decide) (fun c69 => absurd c69 (by omega)) (fun c69 => ?_)
                refine lv_iload_n hx hb dX5_isRight_72 rfl (lv_at hl 5 rfl) ?_
                refine lv_iload hx hb dX5_isRight_73 (lv_at hl 0 rfl) ?_
                refine kl_lt (tgt := 99) hx hb (by omega) (by omega) dX5_isRight_75 (by decide) (fun c75 => ?_) (fun c75 => ?_)
                · refine lv_iconst (v := nI 0) hx hb dX5_isRight_99 (by decide) ?_
                  refine lv_istore_n (lv' := [(3, .int (nI 0)), (7, .int (nI 1)), (6, .int (nI 0)), (5, .int (nI (wt u))), (0, .ref (B + 26)), (1, .int (nI tj)), (2, .int (nI h)), (4, .int (nI u))]) hx hb dX5_isRight_100 rfl hl (by decide) rfl (fun ls hl => ?_)
                  refine lv_iload_n hx hb dX5_isRight_101 rfl (lv_at hl 6 rfl) ?_
                  refine lv_iconst (v := nI 1) hx hb dX5_isRight_102 (by decide) ?_
                  refine lv_iload hx hb dX5_isRight_103 (lv_at hl 1 rfl) ?_
                  refine lv_isub hx hb dX5_isRight_105 ?_
                  refine lv_iadd hx hb dX5_isRight_106 ?_
                  refine lv_istore_n (lv' := [(2, .int ((nI h) + (nI 1 - nI 1))), (3, .int (nI 0)), (7, .int (nI 1)), (6, .int (nI 0)), (5, .int (nI (wt u))), (0, .ref (B + 26)), (1, .int (nI tj)), (4, .int (nI u))]) hx hb dX5_isRight_107 rfl hl (by decide) rfl (fun ls hl => ?_)
                  refine lv_iinc (v := nI (u + 1)) (lv' := [(4, .int (nI (u + 1))), (2, .int ((nI h) + (nI 1 - nI 1))), (3, .int (nI 0)), (7, .int (nI 1)), (6, .int (nI 0)), (5, .int (nI (wt u))), (0, .ref (B + 26)), (1, .int (nI tj))]) hx hb dX5_isRight_108 hl (k := 7) rfl (nI_1 _) (by decide) rfl (fun ls hl => ?_)
                  refine lv_goto (tgt := 7) hx hb dX5_isRight_111 (by decide) ?_
                  exact ih7 (u + 1) ((nI h) + (nI 1 - nI 1)) (nI 0) (by omega) (by first | omega | grind) (Or.inr ⟨rfl, mt_h_bad hh (by omega)⟩) _ _ hP ls (lv_sub hl [6, 7, 1, 2, 0] rfl)
                · refine lv_iload hx hb dX5_isRight_78 (lv_at hl 2 rfl) ?_
                  refine lv_iconst (v := nI 4) hx hb dX5_isRight_80 (by decide) ?_
                  refine kl_ge (tgt := 95) hx hb (by omega) (by omega) dX5_isRight_81 (by decide) (fun c81 => ?_) (fun c81 => ?_)
                  · refine lv_iconst (v := nI 1) hx hb dX5_isRight_95 (by decide) ?_
                    refine lv_goto (tgt := 100) hx hb dX5_isRight_96 (by decide) ?_
                    refine lv_istore_n (lv' := [(3, .int (nI 1)), (7, .int (nI 1)), (6, .int (nI 0)), (5, .int (nI (wt u))), (0, .ref (B + 26)), (1, .int (nI tj)), (2, .int (nI h)), (4, .int (nI u))]) hx hb dX5_isRight_100 rfl hl (by decide) rfl (fun ls hl => ?_)
                    refine lv_iload_n hx hb dX5_isRight_101 rfl (lv_at hl 6 rfl) ?_
                    refine lv_iconst (v := nI 1) hx hb dX5_isRight_102 (by decide) ?_
                    refine lv_iload hx hb dX5_isRight_103 (lv_at hl 1 rfl) ?_
                    refine lv_isub hx hb dX5_isRight_105 ?_
                    refine lv_iadd hx hb dX5_isRight_106 ?_
                    refine lv_istore_n (lv' := [(2, .int ((nI h) + (nI 1 - nI 1))), (3, .int (nI 1)), (7, .int (nI 1)), (6, .int (nI 0)), (5, .int (nI (wt u))), (0, .ref (B + 26)), (1, .int (nI tj)), (4, .int (nI u))]) hx hb dX5_isRight_107 rfl hl (by decide) rfl (fun ls hl => ?_)
                    refine lv_iinc (v := nI (u + 1)) (lv' := [(4, .int (nI (u + 1))), (2, .int ((nI h) + (nI 1 - nI 1))), (3, .int (nI 1)), (7, .int (nI 1)), (6, .int (nI 0)), (5, .int (nI (wt u))), (0, .ref (B + 26)), (1, .int (nI tj))]) hx hb dX5_isRight_108 hl (k := 7) rfl (nI_1 _) (by decide) rfl (fun ls hl => ?_)
                    refine lv_goto (tgt := 7) hx hb dX5_isRight_111 (by decide) ?_
                    exact ih7 (u + 1) ((nI h) + (nI 1 - nI 1)) (nI 1) (by omega) (by first | omega | grind) (Or.inl ⟨rfl, h + 1 - mt_tk (wt u), mt_h_step hh (by omega), by rw [hkt]; exact mt_hs (by omega)⟩) _ _ hP ls (lv_sub hl [6, 7, 1, 2, 0] rfl)
                  · refine lv_iload hx hb dX5_isRight_84 (lv_at hl 2 rfl) ?_
                    refine lv_aload_n hx hb dX5_isRight_86 rfl (lv_at hl 3 rfl) ?_
                    refine kl_get (C := RX5) (T := TX5) (N := 31) (ci := 5) hx hb hts hinX5 hown hK hP q26 rfl 3 (by decide) (hts (.fieldLink RX5 7 "KinLedgerModel" "columns" "[I") (by decide +kernel)) (fun _ h9 => h9) rfl dX5_isRight_87 ?_
                    refine lv_iload_n hx hb dX5_isRight_90 rfl (lv_at hl 4 rfl) ?_
                    refine kl_iald hx hb hK hP q27 (by omega) (by omega) dX5_isRight_91 ?_
                    refine kl_top (z := nI (cn tj)) rfl ?_
                    refine kl_ge (tgt := 99) hx hb (by omega) (by omega) dX5_isRight_92 (by decide) (fun c92 => ?_) (fun c92 => ?_)
                    · refine lv_iconst (v := nI 0) hx hb dX5_isRight_99 (by decide) ?_
                      refine lv_istore_n (lv' := [(3, .int (nI 0)), (7, .int (nI 1)), (6, .int (nI 0)), (5, .int (nI (wt u))), (0, .ref (B + 26)), (1, .int (nI tj)), (2, .int (nI h)), (4, .int (nI u))]) hx hb dX5_isRight_100 rfl hl (by decide) rfl (fun ls hl => ?_)
                      refine lv_iload_n hx hb dX5_isRight_101 rfl (lv_at hl 6 rfl) ?_
                      refine lv_iconst (v := nI 1) hx hb dX5_isRight_102 (by decide) ?_
                      refine lv_iload hx hb dX5_isRight_103 (lv_at hl 1 rfl) ?_
                      refine lv_isub hx hb dX5_isRight_105 ?_
                      refine lv_iadd hx hb dX5_isRight_106 ?_
                      refine lv_istore_n (lv' := [(2, .int ((nI h) + (nI 1 - nI 1))), (3, .int (nI 0)), (7, .int (nI 1)), (6, .int (nI 0)), (5, .int (nI (wt u))), (0, .ref (B + 26)), (1, .int (nI tj)), (4, .int (nI u))]) hx hb dX5_isRight_107 rfl hl (by decide) rfl (fun ls hl => ?_)
                      refine lv_iinc (v := nI (u + 1)) (lv' := [(4, .int (nI (u + 1))), (2, .int ((nI h) + (nI 1 - nI 1))), (3, .int (nI 0)), (7, .int (nI 1)), (6, .int (nI 0)), (5, .int (nI (wt u))), (0, .ref (B + 26)), (1, .int (nI tj))]) hx hb dX5_isRight_108 hl (k := 7) rfl (nI_1 _) (by decide) rfl (fun ls hl => ?_)
                      refine lv_goto (tgt := 7) hx hb dX5_isRight_111 (by decide) ?_
                      exact ih7 (u + 1) ((nI h) + (nI 1 - nI 1)) (nI 0) (by omega) (by first | omega | grind) (Or.inr ⟨rfl, mt_h_bad hh (by omega)⟩) _ _ hP ls (lv_sub hl [6, 7, 1, 2, 0] rfl)
                    · refine lv_iconst (v := nI 1) hx hb dX5_isRight_95 (by decide) ?_
                      refine lv_goto (tgt := 100) hx hb dX5_isRight_96 (by decide) ?_
                      refine lv_istore_n (lv' := [(3, .int (nI 1)), (7, .int (nI 1)), (6, .int (nI 0)), (5, .int (nI (wt u))), (0, .ref (B + 26)), (1, .int (nI tj)), (2, .int (nI h)), (4, .int (nI u))]) hx hb dX5_isRight_100 rfl hl (by decide) rfl (fun ls hl => ?_)
                      refine lv_iload_n hx hb dX5_isRight_101 rfl (lv_at hl 6 rfl) ?_
                      refine lv_iconst (v := nI 1) hx hb dX5_isRight_102 (by decide) ?_
                      refine lv_iload hx hb dX5_isRight_103 (lv_at hl 1 rfl) ?_
                      refine lv_isub hx hb dX5_isRight_105 ?_
                      refine lv_iadd hx hb dX5_isRight_106 ?_
                      refine lv_istore_n (lv' := [(2, .int ((nI h) + (nI 1 - nI 1))), (3, .int (nI 1)), (7, .int (nI 1)), (6, .int (nI 0)), (5, .int (nI (wt u))), (0, .ref (B + 26)), (1, .int (nI tj)), (4, .int (nI u))]) hx hb dX5_isRight_107 rfl hl (by decide) rfl (fun ls hl => ?_)
                      refine lv_iinc (v := nI (u + 1)) (lv' := [(4, .int (nI (u + 1))), (2, .int ((nI h) + (nI 1 - nI 1))), (3, .int (nI 1)), (7, .int (nI 1)), (6, .int (nI 0)), (5, .int (nI (wt u))), (0, .ref (B + 26)), (1, .int (nI tj))]) hx hb dX5_isRight_108 hl (k := 7) rfl (nI_1 _) (by decide) rfl (fun ls hl => ?_)
                      refine lv_goto (tgt := 7) hx hb dX5_isRight_111 (by decide) ?_
                      exact ih7 (u + 1) ((nI h) + (nI 1 - nI 1)) (nI 1) (by omega) (by first | omega | grind) (Or.inl ⟨rfl, h + 1 - mt_tk (wt u), mt_h_step hh (by omega), by rw [hkt]; exact mt_hs (by omega)⟩) _ _ hP ls (lv_sub hl [6, 7, 1, 2, 0] rfl)
            · refine lv_iconst (v := nI 1) hx hb dX5_isRight_38 (by decide) ?_
              refine lv_goto (tgt := 43) hx hb dX5_isRight_39 (by decide) ?_
              refine lv_istore (lv' := [(6, .int (nI 1)), (5, .int (nI (wt u))), (0, .ref (B + 26)), (1, .int (nI tj)), (2, .int (nI h)), (3, .int (nI 1)), (4, .int (nI u))]) hx hb dX5_isRight_43 hl (by decide) rfl (fun ls hl => ?_)
              refine lv_iload hx hb dX5_isRight_45 (lv_at hl 0 rfl) ?_
              refine kl_z_eq (tgt := 54) hx hb (by omega) dX5_isRight_47 (by decide) (fun c47 => absurd c47 (by omega)) (fun c47 => ?_)
              refine lv_iconst (v := nI 0) hx hb dX5_isRight_50 (by decide) ?_
              refine lv_goto (tgt := 66) hx hb dX5_isRight_51 (by decide) ?_
              refine lv_istore (lv' := [(7, .int (nI 0)), (6, .int (nI 1)), (5, .int (nI (wt u))), (0, .ref (B + 26)), (1, .int (nI tj)), (2, .int (nI h)), (3, .int (nI 1)), (4, .int (nI u))]) hx hb dX5_isRight_66 hl (by decide) rfl (fun ls hl => ?_)
              have hkt : mt_tk (wt u) = 0 := by unfold mt_tk; exact if_pos (by omega)
              refine lv_iload_n hx hb dX5_isRight_68 rfl (lv_at hl 6 rfl) ?_
              refine kl_z_eq (tgt := 99) hx hb (by omega) dX5_isRight_69 (by decide) (fun c69 => absurd c69 (by omega)) (fun c69 => ?_)
              refine lv_iload_n hx hb dX5_isRight_72 rfl (lv_at hl 5 rfl) ?_
              refine lv_iload hx hb dX5_isRight_73 (lv_at hl 0 rfl) ?_
              refine kl_lt (tgt := 99) hx hb (by omega) (by omega) dX5_isRight_75 (by decide) (fun c75 => absurd c75 (by omega)) (fun c75 => ?_)
              refine lv_iload hx hb dX5_isRight_78 (lv_at hl 2 rfl) ?_
              refine lv_iconst (v := nI 4) hx hb dX5_isRight_80 (by decide) ?_
              refine kl_ge (tgt := 95) hx hb (by omega) (by omega) dX5_isRight_81 (by decide) (fun c81 => ?_) (fun c81 => ?_)
              · refine lv_iconst (v := nI 1) hx hb dX5_isRight_95 (by decide) ?_
                refine lv_goto (tgt := 100) hx hb dX5_isRight_96 (by decide) ?_
                refine lv_istore_n (lv' := [(3, .int (nI 1)), (7, .int (nI 0)), (6, .int (nI 1)), (5, .int (nI (wt u))), (0, .ref (B + 26)), (1, .int (nI tj)), (2, .int (nI h)), (4, .int (nI u))]) hx hb dX5_isRight_100 rfl hl (by decide) rfl (fun ls hl => ?_)
                refine lv_iload_n hx hb dX5_isRight_101 rfl (lv_at hl 6 rfl) ?_
                refine lv_iconst (v := nI 1) hx hb dX5_isRight_102 (by decide) ?_
                refine lv_iload hx hb dX5_isRight_103 (lv_at hl 1 rfl) ?_
                refine lv_isub hx hb dX5_isRight_105 ?_
                refine lv_iadd hx hb dX5_isRight_106 ?_
                refine lv_istore_n (lv' := [(2, .int ((nI h) + (nI 1 - nI 0))), (3, .int (nI 1)), (7, .int (nI 0)), (6, .int (nI 1)), (5, .int (nI (wt u))), (0, .ref (B + 26)), (1, .int (nI tj)), (4, .int (nI u))]) hx hb dX5_isRight_107 rfl hl (by decide) rfl (fun ls hl => ?_)
                refine lv_iinc (v := nI (u + 1)) (lv' := [(4, .int (nI (u + 1))), (2, .int ((nI h) + (nI 1 - nI 0))), (3, .int (nI 1)), (7, .int (nI 0)), (6, .int (nI 1)), (5, .int (nI (wt u))), (0, .ref (B + 26)), (1, .int (nI tj))]) hx hb dX5_isRight_108 hl (k := 7) rfl (nI_1 _) (by decide) rfl (fun ls hl => ?_)
                refine lv_goto (tgt := 7) hx hb dX5_isRight_111 (by decide) ?_
                exact ih7 (u + 1) ((nI h) + (nI 1 - nI 0)) (nI 1) (by omega) (by first | omega | grind) (Or.inl ⟨rfl, h + 1 - mt_tk (wt u), mt_h_step hh (by omega), by rw [hkt]; exact mt_hs (by omega)⟩) _ _ hP ls (lv_sub hl [6, 7, 1, 2, 0] rfl)
              · refine lv_iload hx hb dX5_isRight_84 (lv_at hl 2 rfl) ?_
                refine lv_aload_n hx hb dX5_isRight_86 rfl (lv_at hl 3 rfl) ?_
                refine kl_get (C := RX5) (T := TX5) (N := 31) (ci := 5) hx hb hts hinX5 hown hK hP q26 rfl 3 (by decide) (hts (.fieldLink RX5 7 "KinLedgerModel" "columns" "[I") (by decide +kernel)) (fun _ h9 => h9) rfl dX5_isRight_87 ?_
                refine lv_iload_n hx hb dX5_isRight_90 rfl (lv_at hl 4 rfl) ?_
                refine kl_iald hx hb hK hP q27 (by omega) (by omega) dX5_isRight_91 ?_
                refine kl_top (z := nI (cn tj)) rfl ?_
                refine kl_ge (tgt := 99) hx hb (by omega) (by omega) dX5_isRight_92 (by decide) (fun c92 => ?_) (fun c92 => ?_)
                · refine lv_iconst (v := nI 0) hx hb dX5_isRight_99 (by decide) ?_
                  refine lv_istore_n (lv' := [(3, .int (nI 0)), (7, .int (nI 0)), (6, .int (nI 1)), (5, .int (nI (wt u))), (0, .ref (B + 26)), (1, .int (nI tj)), (2, .int (nI h)), (4, .int (nI u))]) hx hb dX5_isRight_100 rfl hl (by decide) rfl (fun ls hl => ?_)
                  refine lv_iload_n hx hb dX5_isRight_101 rfl (lv_at hl 6 rfl) ?_
                  refine lv_iconst (v := nI 1) hx hb dX5_isRight_102 (by decide) ?_
                  refine lv_iload hx hb dX5_isRight_103 (lv_at hl 1 rfl) ?_
                  refine lv_isub hx hb dX5_isRight_105 ?_
                  refine lv_iadd hx hb dX5_isRight_106 ?_
                  refine lv_istore_n (lv' := [(2, .int ((nI h) + (nI 1 - nI 0))), (3, .int (nI 0)), (7, .int (nI 0)), (6, .int (nI 1)), (5, .int (nI (wt u))), (0, .ref (B + 26)), (1, .int (nI tj)), (4, .int (nI u))]) hx hb dX5_isRight_107 rfl hl (by decide) rfl (fun ls hl => ?_)
                  refine lv_iinc (v := nI (u + 1)) (lv' := [(4, .int (nI (u + 1))), (2, .int ((nI h) + (nI 1 - nI 0))), (3, .int (nI 0)), (7, .int (nI 0)), (6, .int (nI 1)), (5, .int (nI (wt u))), (0, .ref (B + 26)), (1, .int (nI tj))]) hx hb dX5_isRight_108 hl (k := 7) rfl (nI_1 _) (by decide) rfl (fun ls hl => ?_)
                  refine lv_goto (tgt := 7) hx hb dX5_isRight_111 (by decide) ?_
                  exact ih7 (u + 1) ((nI h) + (nI 1 - nI 0)) (nI 0) (by omega) (by first | omega | grind) (Or.inr ⟨rfl, mt_h_bad hh (by omega)⟩) _ _ hP ls (lv_sub hl [6, 7, 1, 2, 0] rfl)
                · refine lv_iconst (v := nI 1) hx hb dX5_isRight_95 (by decide) ?_
                  refine lv_goto (tgt := 100) hx hb dX5_isRight_96 (by decide) ?_
                  refine lv_istore_n (lv' := [(3, .int (nI 1)), (7, .int (nI 0)), (6, .int (nI 1)), (5, .int (nI (wt u))), (0, .ref (B + 26)), (1, .int (nI tj)), (2, .int (nI h)), (4, .int (nI u))]) hx hb dX5_isRight_100 rfl hl (by decide) rfl (fun ls hl => ?_)
                  refine lv_iload_n hx hb dX5_isRight_101 rfl (lv_at hl 6 rfl) ?_
                  refine lv_iconst (v := nI 1) hx hb dX5_isRight_102 (by decide) ?_
                  refine lv_iload hx hb dX5_isRight_103 (lv_at hl 1 rfl) ?_
                  refine lv_isub hx hb dX5_isRight_105 ?_
                  refine lv_iadd hx hb dX5_isRight_106 ?_
                  refine lv_istore_n (lv' := [(2, .int ((nI h) + (nI 1 - nI 0))), (3, .int (nI 1)), (7, .int (nI 0)), (6, .int (nI 1)), (5, .int (nI (wt u))), (0, .ref (B + 26)), (1, .int (nI tj)), (4, .int (nI u))]) hx hb dX5_isRight_107 rfl hl (by decide) rfl (fun ls hl => ?_)
                  refine lv_iinc (v := nI (u + 1)) (lv' := [(4, .int (nI (u + 1))), (2, .int ((nI h) + (nI 1 - nI 0))), (3, .int (nI 1)), (7, .int (nI 0)), (6, .int (nI 1)), (5, .int (nI (wt u))), (0, .ref (B + 26)), (1, .int (nI tj))]) hx hb dX5_isRight_108 hl (k := 7) rfl (nI_1 _) (by decide) rfl (fun ls hl => ?_)
                  refine lv_goto (tgt := 7) hx hb dX5_isRight_111 (by decide) ?_
                  exact ih7 (u + 1) ((nI h) + (nI 1 - nI 0)) (nI 1) (by omega) (by first | omega | grind) (Or.inl ⟨rfl, h + 1 - mt_tk (wt u), mt_h_step hh (by omega), by rw [hkt]; exact mt_hs (by omega)⟩) _ _ hP ls (lv_sub hl [6, 7, 1, 2, 0] rfl)
      · refine lv_iload hx hb dX5_isRight_7 (lv_at hl 4 rfl) ?_
        refine lv_aload_n hx hb dX5_isRight_9 rfl (lv_at hl 0 rfl) ?_
        refine kl_get (C := RX5) (T := TX5) (N := 31) (ci := 5) hx hb hts hinX5 hown hK hP q26 rfl 23 (by decide) (hts (.fieldLink RX5 124 "KinLedgerModel" "waiting" "I") (by decide +kernel)) (fun _ h9 => h9) rfl dX5_isRight_10 ?_
        refine kl_ge (tgt := 114) hx hb (by omega) (by omega) dX5_isRight_13 (by decide) (fun c13 => ?_) (fun c13 => ?_)
        · refine lv_iload_n hx hb dX5_isRight_114 rfl (lv_at hl 3 rfl) ?_
          refine kl_z_eq (tgt := 127) hx hb (by omega) dX5_isRight_115 (by decide) (fun c115 => ?_) (fun c115 => absurd c115 (by omega))
          refine lv_iconst (v := nI 0) hx hb dX5_isRight_127 (by decide) ?_
          exact kl_zret hx hb hr hlocks (by decide) hP ⟨rfl, kl_b.f (fun z => by have z : mt_h wt (cn tj) nW = some 1 := z; rw [show nW = u by omega, hh] at z; cases z)⟩ dX5_isRight_128
        · have hwo := hwt u (by omega)
          have hwl : wt u < 2 ^ 30 := mt_wok_lt hwo
          unfold mt_wok at hwo
          refine lv_aload_n hx hb dX5_isRight_16 rfl (lv_at hl 0 rfl) ?_
          refine kl_get (C := RX5) (T := TX5) (N := 31) (ci := 5) hx hb hts hinX5 hown hK hP q26 rfl 24 (by decide) (hts (.fieldLink RX5 56 "KinLedgerModel" "words" "[I") (by decide +kernel)) (fun _ h9 => h9) rfl dX5_isRight_17 ?_
          refine lv_iload hx hb dX5_isRight_20 (lv_at hl 4 rfl) ?_
          refine kl_iald hx hb hK hP q42 (by omega) (by omega) dX5_isRight_22 ?_
          refine kl_top (z := nI (wt u)) rfl ?_
          refine lv_istore (lv' := [(5, .int (nI (wt u))), (0, .ref (B + 26)), (1, .int (nI tj)), (2, .int on9), (3, .int (nI 0)), (4, .int (nI u))]) hx hb dX5_isRight_23 hl (by decide) rfl (fun ls hl => ?_)
          refine lv_iload hx hb dX5_isRight_25 (lv_at hl 0 rfl) ?_
          refine lv_iconst (v := nI 4) hx hb dX5_isRight_27 (by decide) ?_
          refine kl_lt (tgt := 38) hx hb (by omega) (by omega) dX5_isRight_28 (by decide) (fun c28 => ?_) (fun c28 => ?_)
          · refine lv_iconst (v := nI 1) hx hb dX5_isRight_38 (by decide) ?_
            refine lv_goto (tgt := 43) hx hb dX5_isRight_39 (by decide) ?_
            refine lv_istore (lv' := [(6, .int (nI 1)), (5, .int (nI (wt u))), (0, .ref (B + 26)), (1, .int (nI tj)), (2, .int on9), (3, .int (nI 0)), (4, .int (nI u))]) hx hb dX5_isRight_43 hl (by decide) rfl (fun ls hl => ?_)
            refine lv_iload hx hb dX5_isRight_45 (lv_at hl 0 rfl) ?_
            refine kl_z_eq (tgt := 54) hx hb (by omega) dX5_isRight_47 (by decide) (fun c47 => absurd c47 (by omega)) (fun c47 => ?_)
            refine lv_iconst (v := nI 0) hx hb dX5_isRight_50 (by decide) ?_
            refine lv_goto (tgt := 66) hx hb dX5_isRight_51 (by decide) ?_
            refine lv_istore (lv' := [(7, .int (nI 0)), (6, .int (nI 1)), (5, .int (nI (wt u))), (0, .ref (B + 26)), (1, .int (nI tj)), (2, .int on9), (3, .int (nI 0)), (4, .int (nI u))]) hx hb dX5_isRight_66 hl (by decide) rfl (fun ls hl => ?_)
            have hkt : mt_tk (wt u) = 0 := by unfold mt_tk; exact if_pos (by omega)
            refine lv_iload_n hx hb dX5_isRight_68 rfl (lv_at hl 6 rfl) ?_
            refine kl_z_eq (tgt := 99) hx hb (by omega) dX5_isRight_69 (by decide) (fun c69 => ?_) (fun c69 => absurd c69 (by omega))
            refine lv_iconst (v := nI 0) hx hb dX5_isRight_99 (by decide) ?_
            refine lv_istore_n (lv' := [(3, .int (nI 0)), (7, .int (nI 0)), (6, .int (nI 1)), (5, .int (nI (wt u))), (0, .ref (B + 26)), (1, .int (nI tj)), (2, .int on9), (4, .int (nI u))]) hx hb dX5_isRight_100 rfl hl (by decide) rfl (fun ls hl => ?_)
            refine lv_iload_n hx hb dX5_isRight_101 rfl (lv_at hl 6 rfl) ?_
            refine lv_iconst (v := nI 1) hx hb dX5_isRight_102 (by decide) ?_
            refine lv_iload hx hb dX5_isRight_103 (lv_at hl 1 rfl) ?_
            refine lv_isub hx hb dX5_isRight_105 ?_
            refine lv_iadd hx hb dX5_isRight_106 ?_
            refine lv_istore_n (lv' := [(2, .int (on9 + (nI 1 - nI 0))), (3, .int (nI 0)), (7, .int (nI 0)), (6, .int (nI 1)), (5, .int (nI (wt u))), (0, .ref (B + 26)), (1, .int (nI tj)), (4, .int (nI u))]) hx hb dX5_isRight_107 rfl hl (by decide) rfl (fun ls hl => ?_)
            refine lv_iinc (v := nI (u + 1)) (lv' := [(4, .int (nI (u + 1))), (2, .int (on9 + (nI 1 - nI 0))), (3, .int (nI 0)), (7, .int (nI 0)), (6, .int (nI 1)), (5, .int (nI (wt u))), (0, .ref (B + 26)), (1, .int (nI tj))]) hx hb dX5_isRight_108 hl (k := 7) rfl (nI_1 _) (by decide) rfl (fun ls hl => ?_)
            refine lv_goto (tgt := 7) hx hb dX5_isRight_111 (by decide) ?_
            exact ih7 (u + 1) (on9 + (nI 1 - nI 0)) (nI 0) (by omega) (by first | omega | grind) (Or.inr ⟨rfl, mt_h_none hh (u + 1) (by omega)⟩) _ _ hP ls (lv_sub hl [6, 7, 1, 2, 0] rfl)
          · refine lv_iload hx hb dX5_isRight_31 (lv_at hl 0 rfl) ?_
            refine lv_bipush (v := nI 100) hx hb dX5_isRight_33 (by decide) ?_
            refine kl_lt (tgt := 42) hx hb (by omega) (by omega) dX5_isRight_35 (by decide) (fun c35 => ?_) (fun c35 => ?_)
            · refine lv_iconst (v := nI 0) hx hb dX5_isRight_42 (by decide) ?_
              refine lv_istore (lv' := [(6, .int (nI 0)), (5, .int (nI (wt u))), (0, .ref (B + 26)), (1, .int (nI tj)), (2, .int on9), (3, .int (nI 0)), (4, .int (nI u))]) hx hb dX5_isRight_43 hl (by decide) rfl (fun ls hl => ?_)
              refine lv_iload hx hb dX5_isRight_45 (lv_at hl 0 rfl) ?_
              refine kl_z_eq (tgt := 54) hx hb (by omega) dX5_isRight_47 (by decide) (fun c47 => ?_) (fun c47 => absurd c47 (by omega))
              refine lv_iload hx hb dX5_isRight_54 (lv_at hl 1 rfl) ?_
              refine lv_bipush (v := nI 17) hx hb dX5_isRight_56 (by decide) ?_
              refine kl_ne (tgt := 65) hx hb (by omega) (by omega) dX5_isRight_58 (by decide) (fun c58 => ?_) (fun c58 => ?_)
              · refine lv_iconst (v := nI 2) hx hb dX5_isRight_65 (by decide) ?_
                refine lv_istore (lv' := [(7, .int (nI 2)), (6, .int (nI 0)), (5, .int (nI (wt u))), (0, .ref (B + 26)), (1, .int (nI tj)), (2, .int on9), (3, .int (nI 0)), (4, .int (nI u))]) hx hb dX5_isRight_66 hl (by decide) rfl (fun ls hl => ?_)
                have hkt : mt_tk (wt u) = 2 := by unfold mt_tk; rw [if_neg (by omega)]; exact if_neg c58
                refine lv_iload_n hx hb dX5_isRight_68 rfl (lv_at hl 6 rfl) ?_
                refine kl_z_eq (tgt := 99) hx hb (by omega) dX5_isRight_69 (by decide) (fun c69 => ?_) (fun c69 => absurd c69 (by omega))
                refine lv_iconst (v := nI 0) hx hb dX5_isRight_99 (by decide) ?_
                refine lv_istore_n (lv' := [(3, .int (nI 0)), (7, .int (nI 2)), (6, .int (nI 0)), (5, .int (nI (wt u))), (0, .ref (B + 26)), (1, .int (nI tj)), (2, .int on9), (4, .int (nI u))]) hx hb dX5_isRight_100 rfl hl (by decide) rfl (fun ls hl => ?_)
                refine lv_iload_n hx hb dX5_isRight_101 rfl (lv_at hl 6 rfl) ?_
                refine lv_iconst (v := nI 1) hx hb dX5_isRight_102 (by decide) ?_
                refine lv_iload hx hb dX5_isRight_103 (lv_at hl 1 rfl) ?_
                refine lv_isub hx hb dX5_isRight_105 ?_
                refine lv_iadd hx hb dX5_isRight_106 ?_
                refine lv_istore_n (lv' := [(2, .int (on9 + (nI 1 - nI 2))), (3, .int (nI 0)), (7, .int (nI 2)), (6, .int (nI 0)), (5, .int (nI (wt u))), (0, .ref (B + 26)), (1, .int (nI tj)), (4, .int (nI u))]) hx hb dX5_isRight_107 rfl hl (by decide) rfl (fun ls hl => ?_)
                refine lv_iinc (v := nI (u + 1)) (lv' := [(4, .int (nI (u + 1))), (2, .int (on9 + (nI 1 - nI 2))), (3, .int (nI 0)), (7, .int (nI 2)), (6, .int (nI 0)), (5, .int (nI (wt u))), (0, .ref (B + 26)), (1, .int (nI tj))]) hx hb dX5_isRight_108 hl (k := 7) rfl (nI_1 _) (by decide) rfl (fun ls hl => ?_)
                refine lv_goto (tgt := 7) hx hb dX5_isRight_111 (by decide) ?_
                exact ih7 (u + 1) (on9 + (nI 1 - nI 2)) (nI 0) (by omega) (by first | omega | grind) (Or.inr ⟨rfl, mt_h_none hh (u + 1) (by omega)⟩) _ _ hP ls (lv_sub hl [6, 7, 1, 2, 0] rfl)
              · refine lv_iconst (v := nI 1) hx hb dX5_isRight_61 (by decide) ?_
                refine lv_goto (tgt := 66) hx hb dX5_isRight_62 (by decide) ?_
                refine lv_istore (lv' := [(7, .int (nI 1)), (6, .int (nI 0)), (5, .int (nI (wt u))), (0, .ref (B + 26)), (1, .int (nI tj)), (2, .int on9), (3, .int (nI 0)), (4, .int (nI u))]) hx hb dX5_isRight_66 hl (by decide) rfl (fun ls hl => ?_)
                have hkt : mt_tk (wt u) = 1 := by unfold mt_tk; rw [if_neg (by omega)]; exact if_pos c58
                refine lv_iload_n hx hb dX5_isRight_68 rfl (lv_at hl 6 rfl) ?_
                refine kl_z_eq (tgt := 99) hx hb (by omega) dX5_isRight_69 (by decide) (fun c69 => ?_) (fun c69 => absurd c69 (by omega))
                refine lv_iconst (v := nI 0) hx hb dX5_isRight_99 (by decide) ?_
                refine lv_istore_n (lv' := [(3, .int (nI 0)), (7, .int (nI 1)), (6, .int (nI 0)), (5, .int (nI (wt u))), (0, .ref (B + 26)), (1, .int (nI tj)), (2, .int on9), (4, .int (nI u))]) hx hb dX5_isRight_100 rfl hl (by decide) rfl (fun ls hl => ?_)
                refine lv_iload_n hx hb dX5_isRight_101 rfl (lv_at hl 6 rfl) ?_
                refine lv_iconst (v := nI 1) hx hb dX5_isRight_102 (by decide) ?_
                refine lv_iload hx hb dX5_isRight_103 (lv_at hl 1 rfl) ?_
                refine lv_isub hx hb dX5_isRight_105 ?_
                refine lv_iadd hx hb dX5_isRight_106 ?_
                refine lv_istore_n (lv' := [(2, .int (on9 + (nI 1 - nI 1))), (3, .int (nI 0)), (7, .int (nI 1)), (6, .int (nI 0)), (5, .int (nI (wt u))), (0, .ref (B + 26)), (1, .int (nI tj)), (4, .int (nI u))]) hx hb dX5_isRight_107 rfl hl (by decide) rfl (fun ls hl => ?_)
                refine lv_iinc (v := nI (u + 1)) (lv' := [(4, .int (nI (u + 1))), (2, .int (on9 + (nI 1 - nI 1))), (3, .int (nI 0)), (7, .int (nI 1)), (6, .int (nI 0)), (5, .int (nI (wt u))), (0, .ref (B + 26)), (1, .int (nI tj))]) hx hb dX5_isRight_108 hl (k := 7) rfl (nI_1 _) (by decide) rfl (fun ls hl => ?_)
                refine lv_goto (tgt := 7) hx hb dX5_isRight_111 (by decide) ?_
                exact ih7 (u + 1) (on9 + (nI 1 - nI 1)) (nI 0) (by omega) (by first | omega | grind) (Or.inr ⟨rfl, mt_h_none hh (u + 1) (by omega)⟩) _ _ hP ls (lv_sub hl [6, 7, 1, 2, 0] rfl)
            · refine lv_iconst (v := nI 1) hx hb dX5_isRight_38 (by decide) ?_
              refine lv_goto (tgt := 43) hx hb dX5_isRight_39 (by decide) ?_
              refine lv_istore (lv' := [(6, .int (nI 1)), (5, .int (nI (wt u))), (0, .ref (B + 26)), (1, .int (nI tj)), (2, .int on9), (3, .int (nI 0)), (4, .int (nI u))]) hx hb dX5_isRight_43 hl (by decide) rfl (fun ls hl => ?_)
              refine lv_iload hx hb dX5_isRight_45 (lv_at hl 0 rfl) ?_
              refine kl_z_eq (tgt := 54) hx hb (by omega) dX5_isRight_47 (by decide) (fun c47 => absurd c47 (by omega)) (fun c47 => ?_)
              refine lv_iconst (v := nI 0) hx hb dX5_isRight_50 (by decide) ?_
              refine lv_goto (tgt := 66) hx hb dX5_isRight_51 (by decide) ?_
              refine lv_istore (lv' := [(7, .int (nI 0)), (6, .int (nI 1)), (5, .int (nI (wt u))), (0, .ref (B + 26)), (1, .int (nI tj)), (2, .int on9), (3, .int (nI 0)), (4, .int (nI u))]) hx hb dX5_isRight_66 hl (by decide) rfl (fun ls hl => ?_)
              have hkt : mt_tk (wt u) = 0 := by unfold mt_tk; exact if_pos (by omega)
              refine lv_iload_n hx hb dX5_isRight_68 rfl (lv_at hl 6 rfl) ?_
              refine kl_z_eq (tgt := 99) hx hb (by omega) dX5_isRight_69 (by decide) (fun c69 => ?_) (fun c69 => absurd c69 (by omega))
              refine lv_iconst (v := nI 0) hx hb dX5_isRight_99 (by decide) ?_
              refine lv_istore_n (lv' := [(3, .int (nI 0)), (7, .int (nI 0)), (6, .int (nI 1)), (5, .int (nI (wt u))), (0, .ref (B + 26)), (1, .int (nI tj)), (2, .int on9), (4, .int (nI u))]) hx hb dX5_isRight_100 rfl hl (by decide) rfl (fun ls hl => ?_)
              refine lv_iload_n hx hb dX5_isRight_101 rfl (lv_at hl 6 rfl) ?_
              refine lv_iconst (v := nI 1) hx hb dX5_isRight_102 (by decide) ?_
              refine lv_iload hx hb dX5_isRight_103 (lv_at hl 1 rfl) ?_
              refine lv_isub hx hb dX5_isRight_105 ?_
              refine lv_iadd hx hb dX5_isRight_106 ?_
              refine lv_istore_n (lv' := [(2, .int (on9 + (nI 1 - nI 0))), (3, .int (nI 0)), (7, .int (nI 0)), (6, .int (nI 1)), (5, .int (nI (wt u))), (0, .ref (B + 26)), (1, .int (nI tj)), (4, .int (nI u))]) hx hb dX5_isRight_107 rfl hl (by decide) rfl (fun ls hl => ?_)
              refine lv_iinc (v := nI (u + 1)) (lv' := [(4, .int (nI (u + 1))), (2, .int (on9 + (nI 1 - nI 0))), (3, .int (nI 0)), (7, .int (nI 0)), (6, .int (nI 1)), (5, .int (nI (wt u))), (0, .ref (B + 26)), (1, .int (nI tj))]) hx hb dX5_isRight_108 hl (k := 7) rfl (nI_1 _) (by decide) rfl (fun ls hl => ?_)
              refine lv_goto (tgt := 7) hx hb dX5_isRight_111 (by decide) ?_
              exact ih7 (u + 1) (on9 + (nI 1 - nI 0)) (nI 0) (by omega) (by first | omega | grind) (Or.inr ⟨rfl, mt_h_none hh (u + 1) (by omega)⟩) _ _ hP ls (lv_sub hl [6, 7, 1, 2, 0] rfl)
  exact lp7 (nW + 1) 0 (nI 0) (nI 1) (Nat.lt_succ_of_le (by omega)) (by first | omega | grind) (Or.inl ⟨rfl, 0, rfl, rfl⟩) _ _ hP ls (lv_sub hl [3, 4, 2, 1, 0] rfl)

abbrev rm_X5_check : Room := { frames := 3, cells := 0, slots := 0, locals := 69 }
set_option maxHeartbeats 4000000 in
set_option maxRecDepth 100000 in
theorem c_X5_check (l : Launch) (G : kl_G) (B : Nat) (w : kl_M) {nT nL nS nC nW nM n on : Nat} {ec rs hi : Int32} {cn wt : Nat → Nat} {O D pl ctb : Nat → Int32} {cln cw : Nat → Nat} (tb : Int32) (q26 : w 26 = some (.inr (5, [.int ec, .int rs, .int (nI nT), .ref (B + 27), .int (nI n), .ref (B + 28), .ref (B + 29), .int (nI on), .ref (B + 30), .ref (B + 31), .ref (B + 32), .int (nI nL), .ref (B + 33), .ref (B + 34), .ref (B + 35), .ref (B + 36), .int (nI nS), .ref (B + 37), .ref (B + 38), .int (nI nC), .ref (B + 39), .ref (B + 40), .ref (B + 41), .int (nI nW), .ref (B + 42), .int hi, .ref (B + 43), .int (nI nM), .ref (B + 44), .ref (B + 45), .ref (B + 46)]))) (q27 : w 27 = some (kl_aI G 4 ((fun t => nI (cn t))))) (q28 : w 28 = some (kl_aI G 24 O)) (q29 : w 29 = some (kl_aI G 96 D)) (q39 : w 39 = some (kl_aI G 5 ctb)) (q40 : w 40 = some (kl_aI G 5 ((fun t => nI (cln t))))) (q41 : w 41 = some (kl_aI G 50 ((fun t => nI (cw t))))) (q42 : w 42 = some (kl_aI G 10 ((fun t => nI (wt t))))) (q43 : w 43 = some (kl_aI G 12 pl)) (hn : nT ≤ 4) (hnC : nC ≤ 4) (hnW : nW ≤ 10) (hnn : n ≤ 24) (hcn4 : ∀ j, j < nT → cn j ≤ 4) (hwt : ∀ i, i < nW → mt_wok (wt i)) : Met l yX5_check wsX5_check rm_X5_check (kl_Pc G B w [.ref (B + 26), .int tb]) (kl_Qi G B (fun r w1 => (¬ mt_tab tb nT ∧ w1 26 = some (.inr (5, [.int (nI 1), .int rs, .int (nI nT), .ref (B + 27), .int (nI n), .ref (B + 28), .ref (B + 29), .int (nI on), .ref (B + 30), .ref (B + 31), .ref (B + 32), .int (nI nL), .ref (B + 33), .ref (B + 34), .ref (B + 35), .ref (B + 36), .int (nI nS), .ref (B + 37), .ref (B + 38), .int (nI nC), .ref (B + 39), .ref (B + 40), .ref (B + 41), .int (nI nW), .ref (B + 42), .int hi, .ref (B + 43), .int (nI nM), .ref (B + 44), .ref (B + 45), .ref (B + 46)])) ∧ (∃ (ctb2 : Nat → Int32) (cln2 cw2 : Nat → Nat), w1 39 = some (kl_aI G 5 ctb2) ∧ w1 40 = some (kl_aI G 5 (fun t => nI (cln2 t))) ∧ w1 41 = some (kl_aI G 50 (fun t => nI (cw2 t))) ∧ (∀ j, j < nC → ctb2 j = ctb j ∧ cln2 j = cln j ∧ ∀ i, i < 10 → cw2 (10 * j + i) = cw (10 * j + i))) ∧ (∃ pl2, w1 43 = some (kl_aI G 12 pl2)) ∧ ∀ j : Nat, j ≠ 26 → j ≠ 39 → j ≠ 40 → j ≠ 41 → j ≠ 43 → w1 j = w j) ∨ (∃ tj, tj < nT ∧ tb = nI tj ∧ ¬ mt_right wt (cn tj) nW ∧ w1 26 = some (.inr (5, [.int (nI 1), .int rs, .int (nI nT), .ref (B + 27), .int (nI n), .ref (B + 28), .ref (B + 29), .int (nI on), .ref (B + 30), .ref (B + 31), .ref (B + 32), .int (nI nL), .ref (B + 33), .ref (B + 34), .ref (B + 35), .ref (B + 36), .int (nI nS), .ref (B + 37), .ref (B + 38), .int (nI nC), .ref (B + 39), .ref (B + 40), .ref (B + 41), .int (nI 0), .ref (B + 42), .int hi, .ref (B + 43), .int (nI nM), .ref (B + 44), .ref (B + 45), .ref (B + 46)])) ∧ (∃ (ctb2 : Nat → Int32) (cln2 cw2 : Nat → Nat), w1 39 = some (kl_aI G 5 ctb2) ∧ w1 40 = some (kl_aI G 5 (fun t => nI (cln2 t))) ∧ w1 41 = some (kl_aI G 50 (fun t => nI (cw2 t))) ∧ (∀ j, j < nC → ctb2 j = ctb j ∧ cln2 j = cln j ∧ ∀ i, i < 10 → cw2 (10 * j + i) = cw (10 * j + i))) ∧ (∃ pl2, w1 43 = some (kl_aI G 12 pl2)) ∧ ∀ j : Nat, j ≠ 26 → j ≠ 39 → j ≠ 40 → j ≠ 41 → j ≠ 43 → w1 j = w j) ∨ (∃ tj, tj < nT ∧ tb = nI tj ∧ mt_right wt (cn tj) nW ∧ ¬ nC < 4 ∧ w1 26 = some (.inr (5, [.int (nI 2), .int rs, .int (nI nT), .ref (B + 27), .int (nI n), .ref (B + 28), .ref (B + 29), .int (nI on), .ref (B + 30), .ref (B + 31), .ref (B + 32), .int (nI nL), .ref (B + 33), .ref (B + 34), .ref (B + 35), .ref (B + 36), .int (nI nS), .ref (B + 37), .ref (B + 38), .int (nI nC), .ref (B + 39), .ref (B + 40), .ref (B + 41), .int (nI 0), .ref (B + 42), .int hi, .ref (B + 43), .int (nI nM), .ref (B + 44), .ref (B + 45), .ref (B + 46)])) ∧ (∃ (ctb2 : Nat → Int32) (cln2 cw2 : Nat → Nat), w1 39 = some (kl_aI G 5 ctb2) ∧ w1 40 = some (kl_aI G 5 (fun t => nI (cln2 t))) ∧ w1 41 = some (kl_aI G 50 (fun t => nI (cw2 t))) ∧ (∀ j, j < nC → ctb2 j = ctb j ∧ cln2 j = cln j ∧ ∀ i, i < 10 → cw2 (10 * j + i) = cw (10 * j + i))) ∧ (∃ pl2, w1 43 = some (kl_aI G 12 pl2)) ∧ ∀ j : Nat, j ≠ 26 → j ≠ 39 → j ≠ 40 → j ≠ 41 → j ≠ 43 → w1 j = w j) ∨ (∃ tj, tj < nT ∧ tb = nI tj ∧ mt_right wt (cn tj) nW ∧ nC < 4 ∧ mt_cbrk (md_T n O) D tb wt nW ∧ (∃ h2, w1 26 = some (.inr (5, [.int (nI 3), .int (nI (500 + nC)), .int (nI nT), .ref (B + 27), .int (nI n), .ref (B + 28), .ref (B + 29), .int (nI on), .ref (B + 30), .ref (B + 31), .ref (B + 32), .int (nI nL), .ref (B + 33), .ref (B + 34), .ref (B + 35), .ref (B + 36), .int (nI nS), .ref (B + 37), .ref (B + 38), .int (nI nC), .ref (B + 39), .ref (B + 40), .ref (B + 41), .int (nI 0), .ref (B + 42), .int h2, .ref (B + 43), .int (nI nM), .ref (B + 44), .ref (B + 45), .ref (B + 46)]))) ∧ (∃ (ctb2 : Nat → Int32) (cln2 cw2 : Nat → Nat), w1 39 = some (kl_aI G 5 ctb2) ∧ w1 40 = some (kl_aI G 5 (fun t => nI (cln2 t))) ∧ w1 41 = some (kl_aI G 50 (fun t => nI (cw2 t))) ∧ (∀ j, j < nC → ctb2 j = ctb j ∧ cln2 j = cln j ∧ ∀ i, i < 10 → cw2 (10 * j + i) = cw (10 * j + i))) ∧ (∃ pl2, w1 43 = some (kl_aI G 12 pl2)) ∧ ∀ j : Nat, j ≠ 26 → j ≠ 39 → j ≠ 40 → j ≠ 41 → j ≠ 43 → w1 j = w j) ∨ (∃ tj, tj < nT ∧ tb = nI tj ∧ mt_right wt (cn tj) nW ∧ nC < 4 ∧ r = nI nC ∧ ¬ mt_cbrk (md_T n O) D tb wt nW ∧ (∃ h2, w1 26 = some (.inr (5, [.int (nI 0), .int rs, .int (nI nT), .ref (B + 27), .int (nI n), .ref (B + 28), .ref (B + 29), .int (nI on), .ref (B + 30), .ref (B + 31), .ref (B + 32), .int (nI nL), .ref (B + 33), .ref (B + 34), .ref (B + 35), .ref (B + 36), .int (nI nS), .ref (B + 37), .ref (B + 38), .int (nI (nC + 1)), .ref (B + 39), .ref (B + 40), .ref (B + 41), .int (nI 0), .ref (B + 42), .int h2, .ref (B + 43), .int (nI nM), .ref (B + 44), .ref (B + 45), .ref (B + 46)]))) ∧ (∃ (ctb2 : Nat → Int32) (cln2 cw2 : Nat → Nat), w1 39 = some (kl_aI G 5 ctb2) ∧ w1 40 = some (kl_aI G 5 (fun t => nI (cln2 t))) ∧ w1 41 = some (kl_aI G 50 (fun t => nI (cw2 t))) ∧ (∀ j, j < nC → ctb2 j = ctb j ∧ cln2 j = cln j ∧ ∀ i, i < 10 → cw2 (10 * j + i) = cw (10 * j + i)) ∧ ctb2 nC = tb ∧ cln2 nC = nW ∧ ∀ i, i < nW → cw2 (10 * nC + i) = wt i) ∧ (∃ pl2, w1 43 = some (kl_aI G 12 pl2)) ∧ ∀ j : Nat, j ≠ 26 → j ≠ 39 → j ≠ 40 → j ≠ 41 → j ≠ 43 → w1 j = w j))) 0 0 (kl_fr B) := by
  refine Met.ofW (cc := cX5_check) (maxL := 5) (ret := (some .int)) (by decide) rfl ?_
  intro pg e s m args below meth cd s₁ Bd hml hv
  obtain ⟨rfl, hP0, hK⟩ := hv
  have hx := Bd.exec
  have hb := Bd.bytes
  have hr := Bd.returns
  have hts := atoms_spec (ws := wsX5_check) Bd.pre
  have hown : s.vm.findClass RX5 = some m.cls := findClass_of_methodNamed Bd.named
  have hlocks := Bd.notSynchronized
  have hinX5 : ∀ w ∈ u_ws RX5 TX5 31, w ∈ wsX5_check := by decide +kernel
  have hP := kl_S.rf hP0
  have hl := lv_entry ([.ref (B + 26), .int tb]) (n := 5) (Nat.le_of_ble_eq_true rfl)
  rw [lg_entry_eq]
  generalize (lg_sl ([.ref (B + 26), .int tb]) ++ List.replicate (5 - (lg_sl ([.ref (B + 26), .int tb])).length) Slot.unset).toArray = ls at hl ⊢
  have hl : lv_has ls 5 [(0, .ref (B + 26)), (1, .int tb)] := hl
  have frm : ∀ j : Nat, j ≠ 26 → j ≠ 39 → j ≠ 40 → j ≠ 41 → j ≠ 43 → w j = w j := fun j _ _ _ _ _ => rfl
  refine lv_aload_n hx hb dX5_check_0 rfl (lv_at hl 0 rfl) ?_
  refine lv_aload_n hx hb dX5_check_1 rfl (lv_at hl 0 rfl) ?_
  refine lv_iload_n hx hb dX5_check_2 rfl (lv_at hl 1 rfl) ?_
  refine kl_cVi (C := RX5) (i := 26) (As := [.int tb]) (rest := [.ref (B + 26)]) ⟨hx, hb, hml, hown, hts⟩ (c_X5_isTable l G B _ tb q26 (by omega)) (cwV 1 hts gX5_check_X5_isTable rfl rfl rfl (by decide +kernel) ⟨Nat.le_of_ble_eq_true rfl, Nat.le_of_ble_eq_true rfl⟩) hK hP q26 rfl rfl hl.1 rfl (Nat.le_of_ble_eq_true rfl) dX5_check_3 ⟨Nat.le_of_ble_eq_true rfl, Nat.le_of_ble_eq_true rfl⟩ (fun r3 w1 H locs q2 hP => ?_)
  obtain ⟨rfl, hv4⟩ := q2
  refine kl_ifeq (tgt := 13) hx hb hv4 dX5_check_6 (by decide) (fun c6 => ?_) (fun c6 => ?_)
  · refine lv_iconst (v := nI 1) hx hb dX5_check_13 (by decide) ?_
    refine kl_put (C := RX5) (T := TX5) (N := 31) (ci := 5) (v := .int (nI 1)) (ty := .int) hx hb hts hinX5 tyX5 tyX5_ok nmX5 hown hK hP q26 rfl 0 (by decide) (hts (.fieldLink RX5 71 "KinLedgerModel" "code" "I") (by decide +kernel)) (fun _ h9 => h9) rfl (by decide +kernel) rfl rfl (Nat.le_of_ble_eq_true rfl) dX5_check_14 (fun w5 H locs f6 fr7 hzw5 hP => ?_)
    have f6 : w5 26 = some (.inr (5, [.int (nI 1), .int rs, .int (nI nT), .ref (B + 27), .int (nI n), .ref (B + 28), .ref (B + 29), .int (nI on), .ref (B + 30), .ref (B + 31), .ref (B + 32), .int (nI nL), .ref (B + 33), .ref (B + 34), .ref (B + 35), .ref (B + 36), .int (nI nS), .ref (B + 37), .ref (B + 38), .int (nI nC), .ref (B + 39), .ref (B + 40), .ref (B + 41), .int (nI nW), .ref (B + 42), .int hi, .ref (B + 43), .int (nI nM), .ref (B + 44), .ref (B + 45), .ref (B + 46)])) := f6
    have q27 : w5 27 = some (kl_aI G 4 ((fun t => nI (cn t)))) := (fr7 _ (by decide)).trans q27
    have q28 : w5 28 = some (kl_aI G 24 O) := (fr7 _ (by decide)).trans q28
    have q29 : w5 29 = some (kl_aI G 96 D) := (fr7 _ (by decide)).trans q29
    have q39 : w5 39 = some (kl_aI G 5 ctb) := (fr7 _ (by decide)).trans q39
    have q40 : w5 40 = some (kl_aI G 5 ((fun t => nI (cln t)))) := (fr7 _ (by decide)).trans q40
    have q41 : w5 41 = some (kl_aI G 50 ((fun t => nI (cw t)))) := (fr7 _ (by decide)).trans q41
    have q42 : w5 42 = some (kl_aI G 10 ((fun t => nI (wt t)))) := (fr7 _ (by decide)).trans q42
    have q43 : w5 43 = some (kl_aI G 12 pl) := (fr7 _ (by decide)).trans q43
    have frm : ∀ j : Nat, j ≠ 26 → j ≠ 39 → j ≠ 40 → j ≠ 41 → j ≠ 43 → w5 j = w j := fun j k0 k1 k2 k3 k4 => (fr7 j k0).trans (frm j k0 k1 k2 k3 k4)
    refine lv_aload_n hx hb dX5_check_17 rfl (lv_at hl 0 rfl) ?_
    refine kl_get (C := RX5) (T := TX5) (N := 31) (ci := 5) hx hb hts hinX5 hown hK hP f6 rfl 0 (by decide) (hts (.fieldLink RX5 71 "KinLedgerModel" "code" "I") (by decide +kernel)) (fun _ h9 => h9) rfl dX5_check_18 ?_
    refine kl_z_le (tgt := 26) hx hb (by omega) dX5_check_21 (by decide) (fun c21 => absurd c21 (by omega)) (fun c21 => ?_)
    refine lv_iconst (v := nI 0) hx hb dX5_check_24 (by decide) ?_
    exact kl_iret hx hb hr hlocks hP (Or.inl (⟨c6, f6, ⟨_, _, _, q39, q40, q41, fun j hj => ⟨rfl, rfl, fun _ _ => rfl⟩⟩, ⟨_, q43⟩, frm⟩)) dX5_check_25
  · refine lv_iconst (v := nI 0) hx hb dX5_check_9 (by decide) ?_
    refine lv_goto (tgt := 14) hx hb dX5_check_10 (by decide) ?_
    refine kl_put (C := RX5) (T := TX5) (N := 31) (ci := 5) (v := .int (nI 0)) (ty := .int) hx hb hts hinX5 tyX5 tyX5_ok nmX5 hown hK hP q26 rfl 0 (by decide) (hts (.fieldLink RX5 71 "KinLedgerModel" "code" "I") (by decide +kernel)) (fun _ h9 => h9) rfl (by decide +kernel) rfl rfl (Nat.le_of_ble_eq_true rfl) dX5_check_14 (fun w8 H locs f9 fr10 hzw8 hP => ?_)
    have f9 : w8 26 = some (.inr (5, [.int (nI 0), .int rs, .int (nI nT), .ref (B + 27), .int (nI n), .ref (B + 28), .ref (B + 29), .int (nI on), .ref (B + 30), .ref (B + 31), .ref (B + 32), .int (nI nL), .ref (B + 33), .ref (B + 34), .ref (B + 35), .ref (B + 36), .int (nI nS), .ref (B + 37), .ref (B + 38), .int (nI nC), .ref (B + 39), .ref (B + 40), .ref (B + 41), .int (nI nW), .ref (B + 42), .int hi, .ref (B + 43), .int (nI nM), .ref (B + 44), .ref (B + 45), .ref (B + 46)])) := f9
    have q27 : w8 27 = some (kl_aI G 4 ((fun t => nI (cn t)))) := (fr10 _ (by decide)).trans q27
    have q28 : w8 28 = some (kl_aI G 24 O) := (fr10 _ (by decide)).trans q28
    have q29 : w8 29 = some (kl_aI G 96 D) := (fr10 _ (by decide)).trans q29
    have q39 : w8 39 = some (kl_aI G 5 ctb) := (fr10 _ (by decide)).trans q39
    have q40 : w8 40 = some (kl_aI G 5 ((fun t => nI (cln t)))) := (fr10 _ (by decide)).trans q40
    have q41 : w8 41 = some (kl_aI G 50 ((fun t => nI (cw t)))) := (fr10 _ (by decide)).trans q41
    have q42 : w8 42 = some (kl_aI G 10 ((fun t => nI (wt t)))) := (fr10 _ (by decide)).trans q42
    have q43 : w8 43 = some (kl_aI G 12 pl) := (fr10 _ (by decide)).trans q43
    have frm : ∀ j : Nat, j ≠ 26 → j ≠ 39 → j ≠ 40 → j ≠ 41 → j ≠ 43 → w8 j = w j := fun j k0 k1 k2 k3 k4 => (fr10 j k0).trans (frm j k0 k1 k2 k3 k4)
    refine lv_aload_n hx hb dX5_check_17 rfl (lv_at hl 0 rfl) ?_
    refine kl_get (C := RX5) (T := TX5) (N := 31) (ci := 5) hx hb hts hinX5 hown hK hP f9 rfl 0 (by decide) (hts (.fieldLink RX5 71 "KinLedgerModel" "code" "I") (by decide +kernel)) (fun _ h9 => h9) rfl dX5_check_18 ?_
    refine kl_z_le (tgt := 26) hx hb (by omega) dX5_check_21 (by decide) (fun c21 => ?_) (fun c21 => absurd c21 (by omega))
    obtain ⟨tj, htj, htt⟩ := c6
    have hcj := hcn4 tj htj
    rw [htt] at hl
    refine lv_aload_n hx hb dX5_check_26 rfl (lv_at hl 0 rfl) ?_
    refine lv_iload_n hx hb dX5_check_27 rfl (lv_at hl 1 rfl) ?_
    refine kl_cVi (C := RX5) (i := 26) (As := [.int (nI tj)]) (rest := []) ⟨hx, hb, hml, hown, hts⟩ (c_X5_isRight l G B _ tj f9 q27 q42 htj (by omega) (by omega) (by omega) hwt) (cwV 1 hts gX5_check_X5_isRight rfl rfl rfl (by decide +kernel) ⟨Nat.le_of_ble_eq_true rfl, Nat.le_of_ble_eq_true rfl⟩) hK hP f9 rfl rfl hl.1 rfl (Nat.le_of_ble_eq_true rfl) dX5_check_28 ⟨Nat.le_of_ble_eq_true rfl, Nat.le_of_ble_eq_true rfl⟩ (fun r13 w11 H locs q12 hP => ?_)
    obtain ⟨rfl, hv14⟩ := q12
    refine lv_istore_n (lv' := [(2, .int r13), (0, .ref (B + 26)), (1, .int (nI tj))]) hx hb dX5_check_31 rfl hl (by decide) rfl (fun ls hl => ?_)
    refine lv_aload_n hx hb dX5_check_32 rfl (lv_at hl 1 rfl) ?_
    refine kl_get (C := RX5) (T := TX5) (N := 31) (ci := 5) hx hb hts hinX5 hown hK hP f9 rfl 23 (by decide) (hts (.fieldLink RX5 124 "KinLedgerModel" "waiting" "I") (by decide +kernel)) (fun _ h9 => h9) rfl dX5_check_33 ?_
    refine lv_istore_n (lv' := [(3, .int (nI nW)), (2, .int r13), (0, .ref (B + 26)), (1, .int (nI tj))]) hx hb dX5_check_36 rfl hl (by decide) rfl (fun ls hl => ?_)
    refine lv_aload_n hx hb dX5_check_37 rfl (lv_at hl 2 rfl) ?_
    refine lv_iconst (v := nI 0) hx hb dX5_check_38 (by decide) ?_
    refine kl_put (C := RX5) (T := TX5) (N := 31) (ci := 5) (v := .int (nI 0)) (ty := .int) hx hb hts hinX5 tyX5 tyX5_ok nmX5 hown hK hP f9 rfl 23 (by decide) (hts (.fieldLink RX5 124 "KinLedgerModel" "waiting" "I") (by decide +kernel)) (fun _ h9 => h9) rfl (by decide +kernel) rfl rfl (Nat.le_of_ble_eq_true rfl) dX5_check_39 (fun w15 H locs f16 fr17 hzw15 hP => ?_)
    have f16 : w15 26 = some (.inr (5, [.int (nI 0), .int rs, .int (nI nT), .ref (B + 27), .int (nI n), .ref (B + 28), .ref (B + 29), .int (nI on), .ref (B + 30), .ref (B + 31), .ref (B + 32), .int (nI nL), .ref (B + 33), .ref (B + 34), .ref (B + 35), .ref (B + 36), .int (nI nS), .ref (B + 37), .ref (B + 38), .int (nI nC), .ref (B + 39), .ref (B + 40), .ref (B + 41), .int (nI 0), .ref (B + 42), .int hi, .ref (B + 43), .int (nI nM), .ref (B + 44), .ref (B + 45), .ref (B + 46)])) := f16
    have q27 : w15 27 = some (kl_aI G 4 ((fun t => nI (cn t)))) := (fr17 _ (by decide)).trans q27
    have q28 : w15 28 = some (kl_aI G 24 O) := (fr17 _ (by decide)).trans q28
    have q29 : w15 29 = some (kl_aI G 96 D) := (fr17 _ (by decide)).trans q29
    have q39 : w15 39 = some (kl_aI G 5 ctb) := (fr17 _ (by decide)).trans q39
    have q40 : w15 40 = some (kl_aI G 5 ((fun t => nI (cln t)))) := (fr17 _ (by decide)).trans q40
    have q41 : w15 41 = some (kl_aI G 50 ((fun t => nI (cw t)))) := (fr17 _ (by decide)).trans q41
    have q42 : w15 42 = some (kl_aI G 10 ((fun t => nI (wt t)))) := (fr17 _ (by decide)).trans q42
    have q43 : w15 43 = some (kl_aI G 12 pl) := (fr17 _ (by decide)).trans q43
    have frm : ∀ j : Nat, j ≠ 26 → j ≠ 39 → j ≠ 40 → j ≠ 41 → j ≠ 43 → w15 j = w j := fun j k0 k1 k2 k3 k4 => (fr17 j k0).trans (frm j k0 k1 k2 k3 k4)
    refine lv_aload_n hx hb dX5_check_42 rfl (lv_at hl 2 rfl) ?_
    refine lv_iload_n hx hb dX5_check_43 rfl (lv_at hl 1 rfl) ?_
    refine kl_ifne (tgt := 51) hx hb hv14 dX5_check_44 (by decide) (fun c44 => ?_) (fun c44 => ?_)
    · refine lv_aload_n hx hb dX5_check_51 rfl (lv_at hl 2 rfl) ?_
      refine kl_get (C := RX5) (T := TX5) (N := 31) (ci := 5) hx hb hts hinX5 hown hK hP f16 rfl 19 (by decide) (hts (.fieldLink RX5 112 "KinLedgerModel" "checks" "I") (by decide +kernel)) (fun _ h9 => h9) rfl dX5_check_52 ?_
      refine lv_iconst (v := nI 4) hx hb dX5_check_55 (by decide) ?_
      refine kl_ne (tgt := 63) hx hb (by omega) (by omega) dX5_check_56 (by decide) (fun c56 => ?_) (fun c56 => ?_)
      · refine lv_iconst (v := nI 0) hx hb dX5_check_63 (by decide) ?_
        refine kl_put (C := RX5) (T := TX5) (N := 31) (ci := 5) (v := .int (nI 0)) (ty := .int) hx hb hts hinX5 tyX5 tyX5_ok nmX5 hown hK hP f16 rfl 0 (by decide) (hts (.fieldLink RX5 71 "KinLedgerModel" "code" "I") (by decide +kernel)) (fun _ h9 => h9) rfl (by decide +kernel) rfl rfl (Nat.le_of_ble_eq_true rfl) dX5_check_64 (fun w18 H locs f19 fr20 hzw18 hP => ?_)
        have f19 : w18 26 = some (.inr (5, [.int (nI 0), .int rs, .int (nI nT), .ref (B + 27), .int (nI n), .ref (B + 28), .ref (B + 29), .int (nI on), .ref (B + 30), .ref (B + 31), .ref (B + 32), .int (nI nL), .ref (B + 33), .ref (B + 34), .ref (B + 35), .ref (B + 36), .int (nI nS), .ref (B + 37), .ref (B + 38), .int (nI nC), .ref (B + 39), .ref (B + 40), .ref (B + 41), .int (nI 0), .ref (B + 42), .int hi, .ref (B + 43), .int (nI nM), .ref (B + 44), .ref (B + 45), .ref (B + 46)])) := f19
        have q27 : w18 27 = some (kl_aI G 4 ((fun t => nI (cn t)))) := (fr20 _ (by decide)).trans q27
        have q28 : w18 28 = some (kl_aI G 24 O) := (fr20 _ (by decide)).trans q28
        have q29 : w18 29 = some (kl_aI G 96 D) := (fr20 _ (by decide)).trans q29
        have q39 : w18 39 = some (kl_aI G 5 ctb) := (fr20 _ (by decide)).trans q39
        have q40 : w18 40 = some (kl_aI G 5 ((fun t => nI (cln t)))) := (fr20 _ (by decide)).trans q40
        have q41 : w18 41 = some (kl_aI G 50 ((fun t => nI (cw t)))) := (fr20 _ (by decide)).trans q41
        have q42 : w18 42 = some (kl_aI G 10 ((fun t => nI (wt t)))) := (fr20 _ (by decide)).trans q42
        have q43 : w18 43 = some (kl_aI G 12 pl) := (fr20 _ (by decide)).trans q43
        have frm : ∀ j : Nat, j ≠ 26 → j ≠ 39 → j ≠ 40 → j ≠ 41 → j ≠ 43 → w18 j = w j := fun j k0 k1 k2 k3 k4 => (fr20 j k0).trans (frm j k0 k1 k2 k3 k4)
        refine lv_aload_n hx hb dX5_check_67 rfl (lv_at hl 2 rfl) ?_
        refine kl_get (C := RX5) (T := TX5) (N := 31) (ci := 5) hx hb hts hinX5 hown hK hP f19 rfl 0 (by decide) (hts (.fieldLink RX5 71 "KinLedgerModel" "code" "I") (by decide +kernel)) (fun _ h9 => h9) rfl dX5_check_68 ?_
        refine kl_z_le (tgt := 76) hx hb (by omega) dX5_check_71 (by decide) (fun c71 => ?_) (fun c71 => absurd c71 (by omega))
        refine lv_aload_n hx hb dX5_check_76 rfl (lv_at hl 2 rfl) ?_
        refine kl_get (C := RX5) (T := TX5) (N := 31) (ci := 5) hx hb hts hinX5 hown hK hP f19 rfl 20 (by decide) (hts (.fieldLink RX5 47 "KinLedgerModel" "checkTable" "[I") (by decide +kernel)) (fun _ h9 => h9) rfl dX5_check_77 ?_
        refine lv_aload_n hx hb dX5_check_80 rfl (lv_at hl 2 rfl) ?_
        refine kl_get (C := RX5) (T := TX5) (N := 31) (ci := 5) hx hb hts hinX5 hown hK hP f19 rfl 19 (by decide) (hts (.fieldLink RX5 112 "KinLedgerModel" "checks" "I") (by decide +kernel)) (fun _ h9 => h9) rfl dX5_check_81 ?_
        refine lv_iload_n hx hb dX5_check_84 rfl (lv_at hl 3 rfl) ?_
        refine kl_iast hx hb hK hP q39 (by omega) (by omega) dX5_check_85 (fun w21 H locs f22 fr23 hzw21 hP => ?_)
        have f19 : w21 26 = some (.inr (5, [.int (nI 0), .int rs, .int (nI nT), .ref (B + 27), .int (nI n), .ref (B + 28), .ref (B + 29), .int (nI on), .ref (B + 30), .ref (B + 31), .ref (B + 32), .int (nI nL), .ref (B + 33), .ref (B + 34), .ref (B + 35), .ref (B + 36), .int (nI nS), .ref (B + 37), .ref (B + 38), .int (nI nC), .ref (B + 39), .ref (B + 40), .ref (B + 41), .int (nI 0), .ref (B + 42), .int hi, .ref (B + 43), .int (nI nM), .ref (B + 44), .ref (B + 45), .ref (B + 46)])) := (fr23 _ (by decide)).trans f19
        have q27 : w21 27 = some (kl_aI G 4 ((fun t => nI (cn t)))) := (fr23 _ (by decide)).trans q27
        have q28 : w21 28 = some (kl_aI G 24 O) := (fr23 _ (by decide)).trans q28
        have q29 : w21 29 = some (kl_aI G 96 D) := (fr23 _ (by decide)).trans q29
        have q40 : w21 40 = some (kl_aI G 5 ((fun t => nI (cln t)))) := (fr23 _ (by decide)).trans q40
        have q41 : w21 41 = some (kl_aI G 50 ((fun t => nI (cw t)))) := (fr23 _ (by decide)).trans q41
        have q42 : w21 42 = some (kl_aI G 10 ((fun t => nI (wt t)))) := (fr23 _ (by decide)).trans q42
        have q43 : w21 43 = some (kl_aI G 12 pl) := (fr23 _ (by decide)).trans q43
        have frm : ∀ j : Nat, j ≠ 26 → j ≠ 39 → j ≠ 40 → j ≠ 41 → j ≠ 43 → w21 j = w j := fun j k0 k1 k2 k3 k4 => (fr23 j k1).trans (frm j k0 k1 k2 k3 k4)
        refine lv_aload_n hx hb dX5_check_86 rfl (lv_at hl 2 rfl) ?_
        refine kl_get (C := RX5) (T := TX5) (N := 31) (ci := 5) hx hb hts hinX5 hown hK hP f19 rfl 21 (by decide) (hts (.fieldLink RX5 50 "KinLedgerModel" "checkLength" "[I") (by decide +kernel)) (fun _ h9 => h9) rfl dX5_check_87 ?_
        refine lv_aload_n hx hb dX5_check_90 rfl (lv_at hl 2 rfl) ?_
        refine kl_get (C := RX5) (T := TX5) (N := 31) (ci := 5) hx hb hts hinX5 hown hK hP f19 rfl 19 (by decide) (hts (.fieldLink RX5 112 "KinLedgerModel" "checks" "I") (by decide +kernel)) (fun _ h9 => h9) rfl dX5_check_91 ?_
        refine lv_iload_n hx hb dX5_check_94 rfl (lv_at hl 0 rfl) ?_
        refine kl_iast hx hb hK hP q40 (by omega) (by omega) dX5_check_95 (fun w24 H locs f25 fr26 hzw24 hP => ?_)
        rw [kl_nup_upd] at f25
        have f19 : w24 26 = some (.inr (5, [.int (nI 0), .int rs, .int (nI nT), .ref (B + 27), .int (nI n), .ref (B + 28), .ref (B + 29), .int (nI on), .ref (B + 30), .ref (B + 31), .ref (B + 32), .int (nI nL), .ref (B + 33), .ref (B + 34), .ref (B + 35), .ref (B + 36), .int (nI nS), .ref (B + 37), .ref (B + 38), .int (nI nC), .ref (B + 39), .ref (B + 40), .ref (B + 41), .int (nI 0), .ref (B + 42), .int hi, .ref (B + 43), .int (nI nM), .ref (B + 44), .ref (B + 45), .ref (B + 46)])) := (fr26 _ (by decide)).trans f19
        have q27 : w24 27 = some (kl_aI G 4 ((fun t => nI (cn t)))) := (fr26 _ (by decide)).trans q27
        have q28 : w24 28 = some (kl_aI G 24 O) := (fr26 _ (by decide)).trans q28
        have q29 : w24 29 = some (kl_aI G 96 D) := (fr26 _ (by decide)).trans q29
        have f22 : w24 39 = some (kl_aI G 5 (upd ctb nC (nI tj))) := (fr26 _ (by decide)).trans f22
        have q41 : w24 41 = some (kl_aI G 50 ((fun t => nI (cw t)))) := (fr26 _ (by decide)).trans q41
        have q42 : w24 42 = some (kl_aI G 10 ((fun t => nI (wt t)))) := (fr26 _ (by decide)).trans q42
        have q43 : w24 43 = some (kl_aI G 12 pl) := (fr26 _ (by decide)).trans q43
        have frm : ∀ j : Nat, j ≠ 26 → j ≠ 39 → j ≠ 40 → j ≠ 41 → j ≠ 43 → w24 j = w j := fun j k0 k1 k2 k3 k4 => (fr26 j k2).trans (frm j k0 k1 k2 k3 k4)
        refine lv_iconst (v := nI 0) hx hb dX5_check_96 (by decide) ?_
        refine lv_istore (lv' := [(4, .int (nI 0)), (3, .int (nI nW)), (2, .int r13), (0, .ref (B + 26)), (1, .int (nI tj))]) hx hb dX5_check_97 hl (by decide) rfl (fun ls hl => ?_)
        have f27 : w24 41 = some (kl_aI G 50 (fun t => nI (md_cw cw wt (10 * nC) 0 t))) := by rw [md_cw_0]; exact q41
        have lp99 : ∀ (n99 : Nat) (k : Nat), nW - k < n99 → (k ≤ nW) → ∀ (w1 : kl_M) (H : Heap) (locs : List Loc), w1 26 = some (.inr (5, [.int (nI 0), .int rs, .int (nI nT), .ref (B + 27), .int (nI n), .ref (B + 28), .ref (B + 29), .int (nI on), .ref (B + 30), .ref (B + 31), .ref (B + 32), .int (nI nL), .ref (B + 33), .ref (B + 34), .ref (B + 35), .ref (B + 36), .int (nI nS), .ref (B + 37), .ref (B + 38), .int (nI nC), .ref (B + 39), .ref (B + 40), .ref (B + 41), .int (nI 0), .ref (B + 42), .int hi, .ref (B + 43), .int (nI nM), .ref (B + 44), .ref (B + 45), .ref (B + 46)])) → w1 27 = some (kl_aI G 4 ((fun t => nI (cn t)))) → w1 28 = some (kl_aI G 24 O) → w1 29 = some (kl_aI G 96 D) → w1 39 = some (kl_aI G 5 (upd ctb nC (nI tj))) → w1 40 = some (kl_aI G 5 ((fun t => nI ((kl_nup cln nC nW) t)))) → w1 41 = some (kl_aI G 50 ((fun t => nI ((md_cw cw wt (10 * nC) k) t)))) → w1 42 = some (kl_aI G 10 ((fun t => nI (wt t)))) → w1 43 = some (kl_aI G 12 pl) → (∀ j : Nat, j ≠ 26 → j ≠ 39 → j ≠ 40 → j ≠ 41 → j ≠ 43 → w1 j = w j) → kl_S G B w1 s.heap H locs → ∀ ls : Array Slot, lv_has ls 5 [(0, .ref (B + 26)), (1, .int (nI tj)), (3, .int (nI nW)), (4, .int (nI k))] → W pg l e rm_X5_check s m ([.ref (B + 26), .int tb] : List Value).toArray below meth cd H locs (0 + 0 + 0) (0 + 0 + 0) (MQ below (kl_Qi G B (fun r w1 => (¬ mt_tab tb nT ∧ w1 26 = some (.inr (5, [.int (nI 1), .int rs, .int (nI nT), .ref (B + 27), .int (nI n), .ref (B + 28), .ref (B + 29), .int (nI on), .ref (B + 30), .ref (B + 31), .ref (B + 32), .int (nI nL), .ref (B + 33), .ref (B + 34), .ref (B + 35), .ref (B + 36), .int (nI nS), .ref (B + 37), .ref (B + 38), .int (nI nC), .ref (B + 39), .ref (B + 40), .ref (B + 41), .int (nI nW), .ref (B + 42), .int hi, .ref (B + 43), .int (nI nM), .ref (B + 44), .ref (B + 45), .ref (B + 46)])) ∧ (∃ (ctb2 : Nat → Int32) (cln2 cw2 : Nat → Nat), w1 39 = some (kl_aI G 5 ctb2) ∧ w1 40 = some (kl_aI G 5 (fun t => nI (cln2 t))) ∧ w1 41 = some (kl_aI G 50 (fun t => nI (cw2 t))) ∧ (∀ j, j < nC → ctb2 j = ctb j ∧ cln2 j = cln j ∧ ∀ i, i < 10 → cw2 (10 * j + i) = cw (10 * j + i))) ∧ (∃ pl2, w1 43 = some (kl_aI G 12 pl2)) ∧ ∀ j : Nat, j ≠ 26 → j ≠ 39 → j ≠ 40 → j ≠ 41 → j ≠ 43 → w1 j = w j) ∨ (∃ tj, tj < nT ∧ tb = nI tj ∧ ¬ mt_right wt (cn tj) nW ∧ w1 26 = some (.inr (5, [.int (nI 1), .int rs, .int (nI nT), .ref (B + 27), .int (nI n), .ref (B + 28), .ref (B + 29), .int (nI on), .ref (B + 30), .ref (B + 31), .ref (B + 32), .int (nI nL), .ref (B + 33), .ref (B + 34), .ref (B + 35), .ref (B + 36), .int (nI nS), .ref (B + 37), .ref (B + 38), .int (nI nC), .ref (B + 39), .ref (B + 40), .ref (B + 41), .int (nI 0), .ref (B + 42), .int hi, .ref (B + 43), .int (nI nM), .ref (B + 44), .ref (B + 45), .ref (B + 46)])) ∧ (∃ (ctb2 : Nat → Int32) (cln2 cw2 : Nat → Nat), w1 39 = some (kl_aI G 5 ctb2) ∧ w1 40 = some (kl_aI G 5 (fun t => nI (cln2 t))) ∧ w1 41 = some (kl_aI G 50 (fun t => nI (cw2 t))) ∧ (∀ j, j < nC → ctb2 j = ctb j ∧ cln2 j = cln j ∧ ∀ i, i < 10 → cw2 (10 * j + i) = cw (10 * j + i))) ∧ (∃ pl2, w1 43 = some (kl_aI G 12 pl2)) ∧ ∀ j : Nat, j ≠ 26 → j ≠ 39 → j ≠ 40 → j ≠ 41 → j ≠ 43 → w1 j = w j) ∨ (∃ tj, tj < nT ∧ tb = nI tj ∧ mt_right wt (cn tj) nW ∧ ¬ nC < 4 ∧ w1 26 = some (.inr (5, [.int (nI 2), .int rs, .int (nI nT), .ref (B + 27), .int (nI n), .ref (B + 28), .ref (B + 29), .int (nI on), .ref (B + 30), .ref (B + 31), .ref (B + 32), .int (nI nL), .ref (B + 33), .ref (B + 34), .ref (B + 35), .ref (B + 36), .int (nI nS), .ref (B + 37), .ref (B + 38), .int (nI nC), .ref (B + 39), .ref (B + 40), .ref (B + 41), .int (nI 0), .ref (B + 42), .int hi, .ref (B + 43), .int (nI nM), .ref (B + 44), .ref (B + 45), .ref (B + 46)])) ∧ (∃ (ctb2 : Nat → Int32) (cln2 cw2 : Nat → Nat), w1 39 = some (kl_aI G 5 ctb2) ∧ w1 40 = some (kl_aI G 5 (fun t => nI (cln2 t))) ∧ w1 41 = some (kl_aI G 50 (fun t => nI (cw2 t))) ∧ (∀ j, j < nC → ctb2 j = ctb j ∧ cln2 j = cln j ∧ ∀ i, i < 10 → cw2 (10 * j + i) = cw (10 * j + i))) ∧ (∃ pl2, w1 43 = some (kl_aI G 12 pl2)) ∧ ∀ j : Nat, j ≠ 26 → j ≠ 39 → j ≠ 40 → j ≠ 41 → j ≠ 43 → w1 j = w j) ∨ (∃ tj, tj < nT ∧ tb = nI tj ∧ mt_right wt (cn tj) nW ∧ nC < 4 ∧ mt_cbrk (md_T n O) D tb wt nW ∧ (∃ h2, w1 26 = some (.inr (5, [.int (nI 3), .int (nI (500 + nC)), .int (nI nT), .ref (B + 27), .int (nI n), .ref (B + 28), .ref (B + 29), .int (nI on), .ref (B + 30), .ref (B + 31), .ref (B + 32), .int (nI nL), .ref (B + 33), .ref (B + 34), .ref (B + 35), .ref (B + 36), .int (nI nS), .ref (B + 37), .ref (B + 38), .int (nI nC), .ref (B + 39), .ref (B + 40), .ref (B + 41), .int (nI 0), .ref (B + 42), .int h2, .ref (B + 43), .int (nI nM), .ref (B + 44), .ref (B + 45), .ref (B + 46)]))) ∧ (∃ (ctb2 : Nat → Int32) (cln2 cw2 : Nat → Nat), w1 39 = some (kl_aI G 5 ctb2) ∧ w1 40 = some (kl_aI G 5 (fun t => nI (cln2 t))) ∧ w1 41 = some (kl_aI G 50 (fun t => nI (cw2 t))) ∧ (∀ j, j < nC → ctb2 j = ctb j ∧ cln2 j = cln j ∧ ∀ i, i < 10 → cw2 (10 * j + i) = cw (10 * j + i))) ∧ (∃ pl2, w1 43 = some (kl_aI G 12 pl2)) ∧ ∀ j : Nat, j ≠ 26 → j ≠ 39 → j ≠ 40 → j ≠ 41 → j ≠ 43 → w1 j = w j) ∨ (∃ tj, tj < nT ∧ tb = nI tj ∧ mt_right wt (cn tj) nW ∧ nC < 4 ∧ r = nI nC ∧ ¬ mt_cbrk (md_T n O) D tb wt nW ∧ (∃ h2, w1 26 = some (.inr (5, [.int (nI 0), .int rs, .int (nI nT), .ref (B + 27), .int (nI n), .ref (B + 28), .ref (B + 29), .int (nI on), .ref (B + 30), .ref (B + 31), .ref (B + 32), .int (nI nL), .ref (B + 33), .ref (B + 34), .ref (B + 35), .ref (B + 36), .int (nI nS), .ref (B + 37), .ref (B + 38), .int (nI (nC + 1)), .ref (B + 39), .ref (B + 40), .ref (B + 41), .int (nI 0), .ref (B + 42), .int h2, .ref (B + 43), .int (nI nM), .ref (B + 44), .ref (B + 45), .ref (B + 46)]))) ∧ (∃ (ctb2 : Nat → Int32) (cln2 cw2 : Nat → Nat), w1 39 = some (kl_aI G 5 ctb2) ∧ w1 40 = some (kl_aI G 5 (fun t => nI (cln2 t))) ∧ w1 41 = some (kl_aI G 50 (fun t => nI (cw2 t))) ∧ (∀ j, j < nC → ctb2 j = ctb j ∧ cln2 j = cln j ∧ ∀ i, i < 10 → cw2 (10 * j + i) = cw (10 * j + i)) ∧ ctb2 nC = tb ∧ cln2 nC = nW ∧ ∀ i, i < nW → cw2 (10 * nC + i) = wt i) ∧ (∃ pl2, w1 43 = some (kl_aI G 12 pl2)) ∧ ∀ j : Nat, j ≠ 26 → j ≠ 39 → j ≠ 40 → j ≠ 41 → j ≠ 43 → w1 j = w j))) ([.ref (B + 26), .int tb] : List Value).toArray s 0 0 (kl_fr B)) (F0 m 99 ls []) := by
          intro n99
          induction n99 with
          | zero => intro k hm; exact absurd hm (Nat.not_lt_zero _)
          | succ n99 ih99 =>
            intro k hm hk w1 H locs f19 q27 q28 q29 f22 f25 f27 q42 q43 frm hP ls hl
            refine lv_iload hx hb dX5_check_99 (lv_at hl 3 rfl) ?_
            refine lv_iload_n hx hb dX5_check_101 rfl (lv_at hl 2 rfl) ?_
            refine kl_ge (tgt := 133) hx hb (by omega) (by omega) dX5_check_102 (by decide) (fun c102 => ?_) (fun c102 => ?_)
            · obtain rfl : nW = k := by omega
              refine lv_aload_n hx hb dX5_check_133 rfl (lv_at hl 0 rfl) ?_
              refine lv_aload_n hx hb dX5_check_134 rfl (lv_at hl 0 rfl) ?_
              refine kl_get (C := RX5) (T := TX5) (N := 31) (ci := 5) hx hb hts hinX5 hown hK hP f19 rfl 19 (by decide) (hts (.fieldLink RX5 112 "KinLedgerModel" "checks" "I") (by decide +kernel)) (fun _ h9 => h9) rfl dX5_check_135 ?_
              refine kl_cVi (C := RX5) (i := 26) (As := [.int (nI nC)]) (rest := []) ⟨hx, hb, hml, hown, hts⟩ (c_X5_breaksCheck l G B _ (cn tj) (fun i => md_cw cw wt (10 * nC) nW (10 * nC + i)) nC f19 q28 q29 f22 f25 f27 q43 (by omega) (by omega) (fun _ => rfl) (by rw [kl_nup_s]; exact (md_h_cong (fun i hi => md_cw_in hi)).trans c44) (by omega) (fun j hj => by rw [kl_nup_s] at hj; show mt_wok (md_cw _ _ _ _ _); rw [md_cw_in hj]; exact hwt j hj) (by rw [kl_nup_s]; omega) (by rw [pk_us]; exact kl_nm1 (by omega))) (cwV 1 hts gX5_check_X5_breaksCheck rfl rfl rfl (by decide +kernel) ⟨Nat.le_of_ble_eq_true rfl, Nat.le_of_ble_eq_true rfl⟩) hK hP f19 rfl rfl hl.1 rfl (Nat.le_of_ble_eq_true rfl) dX5_check_138 ⟨Nat.le_of_ble_eq_true rfl, Nat.le_of_ble_eq_true rfl⟩ (fun r30 w28 H locs q29 hP => ?_)
              obtain ⟨hv31, ⟨hi32, f33⟩, ⟨pl34, f35⟩, fr36⟩ := q29
              have q27 : w28 27 = some (kl_aI G 4 ((fun t => nI (cn t)))) := (fr36 _ (by decide) (by decide)).trans q27
              have q28 : w28 28 = some (kl_aI G 24 O) := (fr36 _ (by decide) (by decide)).trans q28
              have q29 : w28 29 = some (kl_aI G 96 D) := (fr36 _ (by decide) (by decide)).trans q29
              have f22 : w28 39 = some (kl_aI G 5 (upd ctb nC (nI tj))) := (fr36 _ (by decide) (by decide)).trans f22
              have f25 : w28 40 = some (kl_aI G 5 ((fun t => nI ((kl_nup cln nC nW) t)))) := (fr36 _ (by decide) (by decide)).trans f25
              have f27 : w28 41 = some (kl_aI G 50 ((fun t => nI ((md_cw cw wt (10 * nC) nW) t)))) := (fr36 _ (by decide) (by decide)).trans f27
              have q42 : w28 42 = some (kl_aI G 10 ((fun t => nI (wt t)))) := (fr36 _ (by decide) (by decide)).trans q42
              have f33 : w28 26 = some (.inr (5, [.int (nI 0), .int rs, .int (nI nT), .ref (B + 27), .int (nI n), .ref (B + 28), .ref (B + 29), .int (nI on), .ref (B + 30), .ref (B + 31), .ref (B + 32), .int (nI nL), .ref (B + 33), .ref (B + 34), .ref (B + 35), .ref (B + 36), .int (nI nS), .ref (B + 37), .ref (B + 38), .int (nI nC), .ref (B + 39), .ref (B + 40), .ref (B + 41), .int (nI 0), .ref (B + 42), .int hi32, .ref (B + 43), .int (nI nM), .ref (B + 44), .ref (B + 45), .ref (B + 46)])) := f33
              have f35 : w28 43 = some (kl_aI G 12 pl34) := f35
              have frm : ∀ j : Nat, j ≠ 26 → j ≠ 39 → j ≠ 40 → j ≠ 41 → j ≠ 43 → w28 j = w j := fun j k0 k1 k2 k3 k4 => (fr36 j k0 k4).trans (frm j k0 k1 k2 k3 k4)
              rw [pk_us, kl_nup_s] at hv31
              have hv31 := hv31.iff (md_cbrk_cong (wd2 := wt) (fun i hi => md_cw_in hi))
              refine kl_ifeq (tgt := 163) hx hb hv31 dX5_check_141 (by decide) (fun c141 => ?_) (fun c141 => ?_)
              · refine lv_aload_n hx hb dX5_check_163 rfl (lv_at hl 0 rfl) ?_
                refine lv_dup hx hb dX5_check_164 rfl ?_
                refine kl_get (C := RX5) (T := TX5) (N := 31) (ci := 5) hx hb hts hinX5 hown hK hP f33 rfl 19 (by decide) (hts (.fieldLink RX5 112 "KinLedgerModel" "checks" "I") (by decide +kernel)) (fun _ h9 => h9) rfl dX5_check_165 ?_
                refine lv_iconst (v := nI 1) hx hb dX5_check_168 (by decide) ?_
                refine lv_iadd hx hb dX5_check_169 ?_
                refine kl_top (z := nI (nC + 1)) (by first | exact nI_add _ _ | (rw [nI_add]; first | rfl | (congr 1; omega))) ?_
                refine kl_put (C := RX5) (T := TX5) (N := 31) (ci := 5) (v := .int (nI (nC + 1))) (ty := .int) hx hb hts hinX5 tyX5 tyX5_ok nmX5 hown hK hP f33 rfl 19 (by decide) (hts (.fieldLink RX5 112 "KinLedgerModel" "checks" "I") (by decide +kernel)) (fun _ h9 => h9) rfl (by decide +kernel) rfl rfl (Nat.le_of_ble_eq_true rfl) dX5_check_170 (fun w37 H locs f38 fr39 hzw37 hP => ?_)
                have f38 : w37 26 = some (.inr (5, [.int (nI 0), .int rs, .int (nI nT), .ref (B + 27), .int (nI n), .ref (B + 28), .ref (B + 29), .int (nI on), .ref (B + 30), .ref (B + 31), .ref (B + 32), .int (nI nL), .ref (B + 33), .ref (B + 34), .ref (B + 35), .ref (B + 36), .int (nI nS), .ref (B + 37), .ref (B + 38), .int (nI (nC + 1)), .ref (B + 39), .ref (B + 40), .ref (B + 41), .int (nI 0), .ref (B + 42), .int hi32, .ref (B + 43), .int (nI nM), .ref (B + 44), .ref (B + 45), .ref (B + 46)])) := f38
                have q27 : w37 27 = some (kl_aI G 4 ((fun t => nI (cn t)))) := (fr39 _ (by decide)).trans q27
                have q28 : w37 28 = some (kl_aI G 24 O) := (fr39 _ (by decide)).trans q28
                have q29 : w37 29 = some (kl_aI G 96 D) := (fr39 _ (by decide)).trans q29
                have f22 : w37 39 = some (kl_aI G 5 (upd ctb nC (nI tj))) := (fr39 _ (by decide)).trans f22
                have f25 : w37 40 = some (kl_aI G 5 ((fun t => nI ((kl_nup cln nC nW) t)))) := (fr39 _ (by decide)).trans f25
                have f27 : w37 41 = some (kl_aI G 50 ((fun t => nI ((md_cw cw wt (10 * nC) nW) t)))) := (fr39 _ (by decide)).trans f27
                have q42 : w37 42 = some (kl_aI G 10 ((fun t => nI (wt t)))) := (fr39 _ (by decide)).trans q42
                have f35 : w37 43 = some (kl_aI G 12 pl34) := (fr39 _ (by decide)).trans f35
                have frm : ∀ j : Nat, j ≠ 26 → j ≠ 39 → j ≠ 40 → j ≠ 41 → j ≠ 43 → w37 j = w j := fun j k0 k1 k2 k3 k4 => (fr39 j k0).trans (frm j k0 k1 k2 k3 k4)
                refine lv_aload_n hx hb dX5_check_173 rfl (lv_at hl 0 rfl) ?_
                refine kl_get (C := RX5) (T := TX5) (N := 31) (ci := 5) hx hb hts hinX5 hown hK hP f38 rfl 19 (by decide) (hts (.fieldLink RX5 112 "KinLedgerModel" "checks" "I") (by decide +kernel)) (fun _ h9 => h9) rfl dX5_check_174 ?_
                refine lv_iconst (v := nI 1) hx hb dX5_check_177 (by decide) ?_
                refine lv_isub hx hb dX5_check_178 ?_
                refine kl_top (z := nI nC) (by first | exact pk_sub (by omega) | (rw [pk_sub (by omega)]; congr 1; omega)) ?_
                exact kl_iret hx hb hr hlocks hP (Or.inr (Or.inr (Or.inr (Or.inr (⟨tj, htj, htt, c44, by omega, rfl, by rw [htt]; exact c141, ⟨_, f38⟩, ⟨_, _, _, f22, f25, f27, fun j hj => ⟨pk_un (by omega), kl_nup_n (by omega), fun i hi => md_cw_out (by omega)⟩, by rw [htt]; exact pk_us, kl_nup_s, fun i hi => md_cw_in hi⟩, ⟨_, f35⟩, frm⟩))))) dX5_check_179
              · refine lv_aload_n hx hb dX5_check_144 rfl (lv_at hl 0 rfl) ?_
                refine lv_iconst (v := nI 3) hx hb dX5_check_145 (by decide) ?_
                refine kl_put (C := RX5) (T := TX5) (N := 31) (ci := 5) (v := .int (nI 3)) (ty := .int) hx hb hts hinX5 tyX5 tyX5_ok nmX5 hown hK hP f33 rfl 0 (by decide) (hts (.fieldLink RX5 71 "KinLedgerModel" "code" "I") (by decide +kernel)) (fun _ h9 => h9) rfl (by decide +kernel) rfl rfl (Nat.le_of_ble_eq_true rfl) dX5_check_146 (fun w40 H locs f41 fr42 hzw40 hP => ?_)
                have f41 : w40 26 = some (.inr (5, [.int (nI 3), .int rs, .int (nI nT), .ref (B + 27), .int (nI n), .ref (B + 28), .ref (B + 29), .int (nI on), .ref (B + 30), .ref (B + 31), .ref (B + 32), .int (nI nL), .ref (B + 33), .ref (B + 34), .ref (B + 35), .ref (B + 36), .int (nI nS), .ref (B + 37), .ref (B + 38), .int (nI nC), .ref (B + 39), .ref (B + 40), .ref (B + 41), .int (nI 0), .ref (B + 42), .int hi32, .ref (B + 43), .int (nI nM), .ref (B + 44), .ref (B + 45), .ref (B + 46)])) := f41
                have q27 : w40 27 = some (kl_aI G 4 ((fun t => nI (cn t)))) := (fr42 _ (by decide)).trans q27
                have q28 : w40 28 = some (kl_aI G 24 O) := (fr42 _ (by decide)).trans q28
                have q29 : w40 29 = some (kl_aI G 96 D) := (fr42 _ (by decide)).trans q29
                have f22 : w40 39 = some (kl_aI G 5 (upd ctb nC (nI tj))) := (fr42 _ (by decide)).trans f22
                have f25 : w40 40 = some (kl_aI G 5 ((fun t => nI ((kl_nup cln nC nW) t)))) := (fr42 _ (by decide)).trans f25
                have f27 : w40 41 = some (kl_aI G 50 ((fun t => nI ((md_cw cw wt (10 * nC) nW) t)))) := (fr42 _ (by decide)).trans f27
                have q42 : w40 42 = some (kl_aI G 10 ((fun t => nI (wt t)))) := (fr42 _ (by decide)).trans q42
                have f35 : w40 43 = some (kl_aI G 12 pl34) := (fr42 _ (by decide)).trans f35
                have frm : ∀ j : Nat, j ≠ 26 → j ≠ 39 → j ≠ 40 → j ≠ 41 → j ≠ 43 → w40 j = w j := fun j k0 k1 k2 k3 k4 => (fr42 j k0).trans (frm j k0 k1 k2 k3 k4)
                refine lv_aload_n hx hb dX5_check_149 rfl (lv_at hl 0 rfl) ?_
                refine lv_sipush (v := nI 500) hx hb dX5_check_150 (by decide) ?_
                refine lv_aload_n hx hb dX5_check_153 rfl (lv_at hl 0 rfl) ?_
                refine kl_get (C := RX5) (T := TX5) (N := 31) (ci := 5) hx hb hts hinX5 hown hK hP f41 rfl 19 (by decide) (hts (.fieldLink RX5 112 "KinLedgerModel" "checks" "I") (by decide +kernel)) (fun _ h9 => h9) rfl dX5_check_154 ?_
                refine lv_iadd hx hb dX5_check_157 ?_
                refine kl_top (z := nI (500 + nC)) (by first | exact nI_add _ _ | (rw [nI_add]; first | rfl | (congr 1; omega))) ?_
                refine kl_put (C := RX5) (T := TX5) (N := 31) (ci := 5) (v := .int (nI (500 + nC))) (ty := .int) hx hb hts hinX5 tyX5 tyX5_ok nmX5 hown hK hP f41 rfl 1 (by decide) (hts (.fieldLink RX5 121 "KinLedgerModel" "reason" "I") (by decide +kernel)) (fun _ h9 => h9) rfl (by decide +kernel) rfl rfl (Nat.le_of_ble_eq_true rfl) dX5_check_158 (fun w43 H locs f44 fr45 hzw43 hP => ?_)
                have f44 : w43 26 = some (.inr (5, [.int (nI 3), .int (nI (500 + nC)), .int (nI nT), .ref (B + 27), .int (nI n), .ref (B + 28), .ref (B + 29), .int (nI on), .ref (B + 30), .ref (B + 31), .ref (B + 32), .int (nI nL), .ref (B + 33), .ref (B + 34), .ref (B + 35), .ref (B + 36), .int (nI nS), .ref (B + 37), .ref (B + 38), .int (nI nC), .ref (B + 39), .ref (B + 40), .ref (B + 41), .int (nI 0), .ref (B + 42), .int hi32, .ref (B + 43), .int (nI nM), .ref (B + 44), .ref (B + 45), .ref (B + 46)])) := f44
                have q27 : w43 27 = some (kl_aI G 4 ((fun t => nI (cn t)))) := (fr45 _ (by decide)).trans q27
                have q28 : w43 28 = some (kl_aI G 24 O) := (fr45 _ (by decide)).trans q28
                have q29 : w43 29 = some (kl_aI G 96 D) := (fr45 _ (by decide)).trans q29
                have f22 : w43 39 = some (kl_aI G 5 (upd ctb nC (nI tj))) := (fr45 _ (by decide)).trans f22
                have f25 : w43 40 = some (kl_aI G 5 ((fun t => nI ((kl_nup cln nC nW) t)))) := (fr45 _ (by decide)).trans f25
                have f27 : w43 41 = some (kl_aI G 50 ((fun t => nI ((md_cw cw wt (10 * nC) nW) t)))) := (fr45 _ (by decide)).trans f27
                have q42 : w43 42 = some (kl_aI G 10 ((fun t => nI (wt t)))) := (fr45 _ (by decide)).trans q42
                have f35 : w43 43 = some (kl_aI G 12 pl34) := (fr45 _ (by decide)).trans f35
                have frm : ∀ j : Nat, j ≠ 26 → j ≠ 39 → j ≠ 40 → j ≠ 41 → j ≠ 43 → w43 j = w j := fun j k0 k1 k2 k3 k4 => (fr45 j k0).trans (frm j k0 k1 k2 k3 k4)
                refine lv_iconst (v := nI 0) hx hb dX5_check_161 (by decide) ?_
                exact kl_iret hx hb hr hlocks hP (Or.inr (Or.inr (Or.inr (Or.inl (⟨tj, htj, htt, c44, by omega, by rw [htt]; exact c141, ⟨_, f44⟩, ⟨_, _, _, f22, f25, f27, fun j hj => ⟨pk_un (by omega), kl_nup_n (by omega), fun i hi => md_cw_out (by omega)⟩⟩, ⟨_, f35⟩, frm⟩))))) dX5_check_162
            · refine lv_aload_n hx hb dX5_check_105 rfl (lv_at hl 0 rfl) ?_
              refine kl_get (C := RX5) (T := TX5) (N := 31) (ci := 5) hx hb hts hinX5 hown hK hP f19 rfl 22 (by decide) (hts (.fieldLink RX5 53 "KinLedgerModel" "checkWords" "[I") (by decide +kernel)) (fun _ h9 => h9) rfl dX5_check_106 ?_
              refine lv_bipush (v := nI 10) hx hb dX5_check_109 (by decide) ?_
              refine lv_aload_n hx hb dX5_check_111 rfl (lv_at hl 0 rfl) ?_
              refine kl_get (C := RX5) (T := TX5) (N := 31) (ci := 5) hx hb hts hinX5 hown hK hP f19 rfl 19 (by decide) (hts (.fieldLink RX5 112 "KinLedgerModel" "checks" "I") (by decide +kernel)) (fun _ h9 => h9) rfl dX5_check_112 ?_
              refine lv_imul hx hb dX5_check_115 ?_
              refine kl_top (z := nI (10 * nC)) (pk_mul _ _) ?_
              refine lv_iload hx hb dX5_check_116 (lv_at hl 3 rfl) ?_
              refine lv_iadd hx hb dX5_check_118 ?_
              refine kl_top (z := nI (10 * nC + k)) (by first | exact nI_add _ _ | (rw [nI_add]; first | rfl | (congr 1; omega))) ?_
              refine lv_aload_n hx hb dX5_check_119 rfl (lv_at hl 0 rfl) ?_
              refine kl_get (C := RX5) (T := TX5) (N := 31) (ci := 5) hx hb hts hinX5 hown hK hP f19 rfl 24 (by decide) (hts (.fieldLink RX5 56 "KinLedgerModel" "words" "[I") (by decide +kernel)) (fun _ h9 => h9) rfl dX5_check_120 ?_
              refine lv_iload hx hb dX5_check_123 (lv_at hl 3 rfl) ?_
              refine kl_iald hx hb hK hP q42 (by omega) (by omega) dX5_check_125 ?_
              refine kl_top (z := nI (wt k)) rfl ?_
              refine kl_iast hx hb hK hP f27 (by omega) (by omega) dX5_check_126 (fun w46 H locs f47 fr48 hzw46 hP => ?_)
              rw [kl_nup_upd] at f47
              have f19 : w46 26 = some (.inr (5, [.int (nI 0), .int rs, .int (nI nT), .ref (B + 27), .int (nI n), .ref (B + 28), .ref (B + 29), .int (nI on), .ref (B + 30), .ref (B + 31), .ref (B + 32), .int (nI nL), .ref (B + 33), .ref (B + 34), .ref (B + 35), .ref (B + 36), .int (nI nS), .ref (B + 37), .ref (B + 38), .int (nI nC), .ref (B + 39), .ref (B + 40), .ref (B + 41), .int (nI 0), .ref (B + 42), .int hi, .ref (B + 43), .int (nI nM), .ref (B + 44), .ref (B + 45), .ref (B + 46)])) := (fr48 _ (by decide)).trans f19
              have q27 : w46 27 = some (kl_aI G 4 ((fun t => nI (cn t)))) := (fr48 _ (by decide)).trans q27
              have q28 : w46 28 = some (kl_aI G 24 O) := (fr48 _ (by decide)).trans q28
              have q29 : w46 29 = some (kl_aI G 96 D) := (fr48 _ (by decide)).trans q29
              have f22 : w46 39 = some (kl_aI G 5 (upd ctb nC (nI tj))) := (fr48 _ (by decide)).trans f22
              have f25 : w46 40 = some (kl_aI G 5 ((fun t => nI ((kl_nup cln nC nW) t)))) := (fr48 _ (by decide)).trans f25
              have q42 : w46 42 = some (kl_aI G 10 ((fun t => nI (wt t)))) := (fr48 _ (by decide)).trans q42
              have q43 : w46 43 = some (kl_aI G 12 pl) := (fr48 _ (by decide)).trans q43
              have frm : ∀ j : Nat, j ≠ 26 → j ≠ 39 → j ≠ 40 → j ≠ 41 → j ≠ 43 → w46 j = w j := fun j k0 k1 k2 k3 k4 => (fr48 j k3).trans (frm j k0 k1 k2 k3 k4)
              refine lv_iinc (v := nI (k + 1)) (lv' := [(4, .int (nI (k + 1))), (0, .ref (B + 26)), (1, .int (nI tj)), (3, .int (nI nW))]) hx hb dX5_check_127 hl (k := 3) rfl (nI_1 _) (by decide) rfl (fun ls hl => ?_)
              rw [md_cw_s] at f47
              refine lv_goto (tgt := 99) hx hb dX5_check_130 (by decide) ?_
              exact ih99 (k + 1) (by omega) (by first | omega | grind) _ _ _ f19 q27 q28 q29 f22 f25 f47 q42 q43 frm hP ls (lv_sub hl [1, 2, 3, 0] rfl)
        exact lp99 (nW + 1) 0 (Nat.lt_succ_of_le (by omega)) (by first | omega | grind) _ _ _ f19 q27 q28 q29 f22 f25 f27 q42 q43 frm hP ls (lv_sub hl [3, 4, 1, 0] rfl)
      · refine lv_iconst (v := nI 2) hx hb dX5_check_59 (by decide) ?_
        refine lv_goto (tgt := 64) hx hb dX5_check_60 (by decide) ?_
        refine kl_put (C := RX5) (T := TX5) (N := 31) (ci := 5) (v := .int (nI 2)) (ty := .int) hx hb hts hinX5 tyX5 tyX5_ok nmX5 hown hK hP f16 rfl 0 (by decide) (hts (.fieldLink RX5 71 "KinLedgerModel" "code" "I") (by decide +kernel)) (fun _ h9 => h9) rfl (by decide +kernel) rfl rfl (Nat.le_of_ble_eq_true rfl) dX5_check_64 (fun w49 H locs f50 fr51 hzw49 hP => ?_)
        have f50 : w49 26 = some (.inr (5, [.int (nI 2), .int rs, .int (nI nT), .ref (B + 27), .int (nI n), .ref (B + 28), .ref (B + 29), .int (nI on), .ref (B + 30), .ref (B + 31), .ref (B + 32), .int (nI nL), .ref (B + 33), .ref (B + 34), .ref (B + 35), .ref (B + 36), .int (nI nS), .ref (B + 37), .ref (B + 38), .int (nI nC), .ref (B + 39), .ref (B + 40), .ref (B + 41), .int (nI 0), .ref (B + 42), .int hi, .ref (B + 43), .int (nI nM), .ref (B + 44), .ref (B + 45), .ref (B + 46)])) := f50
        have q27 : w49 27 = some (kl_aI G 4 ((fun t => nI (cn t)))) := (fr51 _ (by decide)).trans q27
        have q28 : w49 28 = some (kl_aI G 24 O) := (fr51 _ (by decide)).trans q28
        have q29 : w49 29 = some (kl_aI G 96 D) := (fr51 _ (by decide)).trans q29
        have q39 : w49 39 = some (kl_aI G 5 ctb) := (fr51 _ (by decide)).trans q39
        have q40 : w49 40 = some (kl_aI G 5 ((fun t => nI (cln t)))) := (fr51 _ (by decide)).trans q40
        have q41 : w49 41 = some (kl_aI G 50 ((fun t => nI (cw t)))) := (fr51 _ (by decide)).trans q41
        have q42 : w49 42 = some (kl_aI G 10 ((fun t => nI (wt t)))) := (fr51 _ (by decide)).trans q42
        have q43 : w49 43 = some (kl_aI G 12 pl) := (fr51 _ (by decide)).trans q43
        have frm : ∀ j : Nat, j ≠ 26 → j ≠ 39 → j ≠ 40 → j ≠ 41 → j ≠ 43 → w49 j = w j := fun j k0 k1 k2 k3 k4 => (fr51 j k0).trans (frm j k0 k1 k2 k3 k4)
        refine lv_aload_n hx hb dX5_check_67 rfl (lv_at hl 2 rfl) ?_
        refine kl_get (C := RX5) (T := TX5) (N := 31) (ci := 5) hx hb hts hinX5 hown hK hP f50 rfl 0 (by decide) (hts (.fieldLink RX5 71 "KinLedgerModel" "code" "I") (by decide +kernel)) (fun _ h9 => h9) rfl dX5_check_68 ?_
        refine kl_z_le (tgt := 76) hx hb (by omega) dX5_check_71 (by decide) (fun c71 => absurd c71 (by omega)) (fun c71 => ?_)
        refine lv_iconst (v := nI 0) hx hb dX5_check_74 (by decide) ?_
        exact kl_iret hx hb hr hlocks hP (Or.inr (Or.inr (Or.inl (⟨tj, htj, htt, c44, by omega, f50, ⟨_, _, _, q39, q40, q41, fun j hj => ⟨rfl, rfl, fun _ _ => rfl⟩⟩, ⟨_, q43⟩, frm⟩)))) dX5_check_75
    · refine lv_iconst (v := nI 1) hx hb dX5_check_47 (by decide) ?_
      refine lv_goto (tgt := 64) hx hb dX5_check_48 (by decide) ?_
      refine kl_put (C := RX5) (T := TX5) (N := 31) (ci := 5) (v := .int (nI 1)) (ty := .int) hx hb hts hinX5 tyX5 tyX5_ok nmX5 hown hK hP f16 rfl 0 (by decide) (hts (.fieldLink RX5 71 "KinLedgerModel" "code" "I") (by decide +kernel)) (fun _ h9 => h9) rfl (by decide +kernel) rfl rfl (Nat.le_of_ble_eq_true rfl) dX5_check_64 (fun w52 H locs f53 fr54 hzw52 hP => ?_)
      have f53 : w52 26 = some (.inr (5, [.int (nI 1), .int rs, .int (nI nT), .ref (B + 27), .int (nI n), .ref (B + 28), .ref (B + 29), .int (nI on), .ref (B + 30), .ref (B + 31), .ref (B + 32), .int (nI nL), .ref (B + 33), .ref (B + 34), .ref (B + 35), .ref (B + 36), .int (nI nS), .ref (B + 37), .ref (B + 38), .int (nI nC), .ref (B + 39), .ref (B + 40), .ref (B + 41), .int (nI 0), .ref (B + 42), .int hi, .ref (B + 43), .int (nI nM), .ref (B + 44), .ref (B + 45), .ref (B + 46)])) := f53
      have q27 : w52 27 = some (kl_aI G 4 ((fun t => nI (cn t)))) := (fr54 _ (by decide)).trans q27
      have q28 : w52 28 = some (kl_aI G 24 O) := (fr54 _ (by decide)).trans q28
      have q29 : w52 29 = some (kl_aI G 96 D) := (fr54 _ (by decide)).trans q29
      have q39 : w52 39 = some (kl_aI G 5 ctb) := (fr54 _ (by decide)).trans q39
      have q40 : w52 40 = some (kl_aI G 5 ((fun t => nI (cln t)))) := (fr54 _ (by decide)).trans q40
      have q41 : w52 41 = some (kl_aI G 50 ((fun t => nI (cw t)))) := (fr54 _ (by decide)).trans q41
      have q42 : w52 42 = some (kl_aI G 10 ((fun t => nI (wt t)))) := (fr54 _ (by decide)).trans q42
      have q43 : w52 43 = some (kl_aI G 12 pl) := (fr54 _ (by decide)).trans q43
      have frm : ∀ j : Nat, j ≠ 26 → j ≠ 39 → j ≠ 40 → j ≠ 41 → j ≠ 43 → w52 j = w j := fun j k0 k1 k2 k3 k4 => (fr54 j k0).trans (frm j k0 k1 k2 k3 k4)
      refine lv_aload_n hx hb dX5_check_67 rfl (lv_at hl 2 rfl) ?_
      refine kl_get (C := RX5) (T := TX5) (N := 31) (ci := 5) hx hb hts hinX5 hown hK hP f53 rfl 0 (by decide) (hts (.fieldLink RX5 71 "KinLedgerModel" "code" "I") (by decide +kernel)) (fun _ h9 => h9) rfl dX5_check_68 ?_
      refine kl_z_le (tgt := 76) hx hb (by omega) dX5_check_71 (by decide) (fun c71 => absurd c71 (by omega)) (fun c71 => ?_)
      refine lv_iconst (v := nI 0) hx hb dX5_check_74 (by decide) ?_
      exact kl_iret hx hb hr hlocks hP (Or.inr (Or.inl (⟨tj, htj, htt, c44, f53, ⟨_, _, _, q39, q40, q41, fun j hj => ⟨rfl, rfl, fun _ _ => rfl⟩⟩, ⟨_, q43⟩, frm⟩))) dX5_check_75
