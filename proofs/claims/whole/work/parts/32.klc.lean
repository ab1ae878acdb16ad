abbrev rm_X4_table : Room := { frames := 7, cells := 2, slots := 12, locals := 110 }
set_option maxHeartbeats 4000000 in
set_option maxRecDepth 100000 in
theorem c_X4_table (l : Launch) (hst : l.stackTraces = false) (G : kl_G) (B : Nat) (w : kl_M) {nT nW nM : Nat} {rs : Int32} {nL nS nC : Nat} {cn : Nat → Nat} (c : Int32) (k0 : w 0 = some (.inr (4, [.ref (B + 1), .int (nI nT), .ref (B + 2), .int (nI nL), .ref (B + 3), .int (nI nS), .ref (B + 4), .int (nI nC), .ref (B + 5), .int (nI nW), .ref (B + 6), .ref (B + 9), .ref (B + 12), .int (nI nM), .ref (B + 13), .int rs]))) (k1 : w 1 = some (kl_aI G 4 ((fun t => nI (cn t))))) (hn : nT ≤ 4) : vx_Met l yX4_table wsX4_table rm_X4_table (kl_Px G B w [.ref (B + 0), .int c]) (kl_Qi G B (fun r w1 => nT < 4 ∧ r = nI nT ∧ (∃ k, c = nI k ∧ 2 ≤ k ∧ k ≤ 4 ∧ w1 1 = some (kl_aI G 4 (fun t => nI (kl_nup cn nT k t)))) ∧ w1 0 = some (.inr (4, [.ref (B + 1), .int (nI (nT + 1)), .ref (B + 2), .int (nI nL), .ref (B + 3), .int (nI nS), .ref (B + 4), .int (nI nC), .ref (B + 5), .int (nI nW), .ref (B + 6), .ref (B + 9), .ref (B + 12), .int (nI nM), .ref (B + 13), .int rs])) ∧ ∀ j : Nat, j ≠ 0 → j ≠ 1 → w1 j = w j)) (kl_X G B (fun E w1 => (E = "java/lang/IllegalArgumentException" ∧ w1 = w ∧ ¬ mt_cok c) ∨ (E = "java/util/NoSuchElementException" ∧ w1 = w ∧ mt_cok c ∧ ¬ nT < 4))) 2 12 (kl_fr B) := by
  refine vx_ofW (cc := cX4_table) (maxL := 2) (ret := (some .int)) (by decide) rfl ?_
  intro pg e s m args below meth cd s₁ Bd hml hout hv
  obtain ⟨rfl, hP0, hK, hZ⟩ := hv
  have hx := Bd.exec
  have hb := Bd.bytes
  have hr := Bd.returns
  have hts := atoms_spec (ws := wsX4_table) Bd.pre
  have hown : s.vm.findClass RX4 = some m.cls := findClass_of_methodNamed Bd.named
  have hlocks := Bd.notSynchronized
  have hinX4 : ∀ w ∈ u_ws RX4 TX4 16, w ∈ wsX4_table := by decide +kernel
  have hP := kl_S.rf hP0
  have hl := lv_entry ([.ref (B + 0), .int c]) (n := 2) (Nat.le_of_ble_eq_true rfl)
  rw [lg_entry_eq]
  generalize (lg_sl ([.ref (B + 0), .int c]) ++ List.replicate (2 - (lg_sl ([.ref (B + 0), .int c])).length) Slot.unset).toArray = ls at hl ⊢
  have hl : lv_has ls 2 [(0, .ref (B + 0)), (1, .int c)] := hl
  have frm : ∀ j : Nat, j ≠ 0 → j ≠ 1 → w j = w j := fun j _ _ => rfl
  refine lv_iload_n hx hb dX4_table_0 rfl (lv_at hl 1 rfl) ?_
  refine lv_iconst (v := nI 2) hx hb dX4_table_1 (by decide) ?_
  refine lv_icmp_lt (tgt := 14) hx hb dX4_table_2 (by decide) (fun c2 => ?_) (fun c2 => ?_)
  · refine lv_iconst (v := nI 0) hx hb dX4_table_14 (by decide) ?_
    refine klx_cSv (As := [.int (nI 0)]) (rest := []) ⟨hx, hb, hml, hown, hts⟩ (c_X4_needArgument l hst G B _ (nI 0) (kl_b.f (P := False) not_false)) (va_cwS 1 hts gX4_table_X4_needArgument rfl rfl rfl (by decide +kernel) ⟨Nat.le_of_ble_eq_true rfl, Nat.le_of_ble_eq_true rfl⟩) hK hZ hP rfl hl.1 rfl (Nat.le_of_ble_eq_true rfl) dX4_table_15 ⟨Nat.le_of_ble_eq_true rfl, Nat.le_of_ble_eq_true rfl⟩ (fun E ce q9 w9 H locs hpx hP h9 hv9 hc9 => kl_out hout hlocks hP (Or.inl ⟨hpx.1, hpx.2.1.symm, fun z => z.1 c2⟩) h9 hv9 hc9 (Nat.le_of_ble_eq_true rfl) (Nat.le_of_ble_eq_true rfl)) (fun w1 H locs q2 hP => ?_)
    exact (q2.2).elim
  · refine lv_iload_n hx hb dX4_table_5 rfl (lv_at hl 1 rfl) ?_
    refine lv_iconst (v := nI 4) hx hb dX4_table_6 (by decide) ?_
    refine lv_icmp_gt (tgt := 14) hx hb dX4_table_7 (by decide) (fun c7 => ?_) (fun c7 => ?_)
    · refine lv_iconst (v := nI 0) hx hb dX4_table_14 (by decide) ?_
      refine klx_cSv (As := [.int (nI 0)]) (rest := []) ⟨hx, hb, hml, hown, hts⟩ (c_X4_needArgument l hst G B _ (nI 0) (kl_b.f (P := False) not_false)) (va_cwS 1 hts gX4_table_X4_needArgument rfl rfl rfl (by decide +kernel) ⟨Nat.le_of_ble_eq_true rfl, Nat.le_of_ble_eq_true rfl⟩) hK hZ hP rfl hl.1 rfl (Nat.le_of_ble_eq_true rfl) dX4_table_15 ⟨Nat.le_of_ble_eq_true rfl, Nat.le_of_ble_eq_true rfl⟩ (fun E ce q9 w9 H locs hpx hP h9 hv9 hc9 => kl_out hout hlocks hP (Or.inl ⟨hpx.1, hpx.2.1.symm, fun z => z.2 c7⟩) h9 hv9 hc9 (Nat.le_of_ble_eq_true rfl) (Nat.le_of_ble_eq_true rfl)) (fun w4 H locs q5 hP => ?_)
      exact (q5.2).elim
    · refine lv_iconst (v := nI 1) hx hb dX4_table_10 (by decide) ?_
      refine lv_goto (tgt := 15) hx hb dX4_table_11 (by decide) ?_
      refine klx_cSv (As := [.int (nI 1)]) (rest := []) ⟨hx, hb, hml, hown, hts⟩ (c_X4_needArgument l hst G B _ (nI 1) (kl_b.t (P := True) trivial)) (va_cwS 1 hts gX4_table_X4_needArgument rfl rfl rfl (by decide +kernel) ⟨Nat.le_of_ble_eq_true rfl, Nat.le_of_ble_eq_true rfl⟩) hK hZ hP rfl hl.1 rfl (Nat.le_of_ble_eq_true rfl) dX4_table_15 ⟨Nat.le_of_ble_eq_true rfl, Nat.le_of_ble_eq_true rfl⟩ (fun _ _ _ _ _ _ hpx _ _ _ _ => (hpx.2.2 trivial).elim) (fun w7 H locs q8 hP => ?_)
      obtain ⟨rfl, ok10⟩ := q8
      refine lv_aload_n hx hb dX4_table_18 rfl (lv_at hl 0 rfl) ?_
      refine kl_get (C := RX4) (T := TX4) (N := 16) (ci := 4) hx hb hts hinX4 hown hK hP k0 rfl 1 (by decide) (hts (.fieldLink RX4 13 "KinLedger" "tableCount" "I") (by decide +kernel)) (fun _ h9 => h9) rfl dX4_table_19 ?_
      refine lv_iconst (v := nI 4) hx hb dX4_table_22 (by decide) ?_
      refine kl_ge (tgt := 30) hx hb (by omega) (by omega) dX4_table_23 (by decide) (fun c23 => ?_) (fun c23 => ?_)
      · refine lv_iconst (v := nI 0) hx hb dX4_table_30 (by decide) ?_
        refine klx_cSv (As := [.int (nI 0)]) (rest := []) ⟨hx, hb, hml, hown, hts⟩ (c_X4_needElement l hst G B _ (nI 0) (kl_b.f (P := False) not_false)) (va_cwS 1 hts gX4_table_X4_needElement rfl rfl rfl (by decide +kernel) ⟨Nat.le_of_ble_eq_true rfl, Nat.le_of_ble_eq_true rfl⟩) hK hZ hP rfl hl.1 rfl (Nat.le_of_ble_eq_true rfl) dX4_table_31 ⟨Nat.le_of_ble_eq_true rfl, Nat.le_of_ble_eq_true rfl⟩ (fun E ce q9 w9 H locs hpx hP h9 hv9 hc9 => kl_out hout hlocks hP (Or.inr ⟨hpx.1, hpx.2.1.symm, ⟨c2, c7⟩, by omega⟩) h9 hv9 hc9 (Nat.le_of_ble_eq_true rfl) (Nat.le_of_ble_eq_true rfl)) (fun w11 H locs q12 hP => ?_)
        exact (q12.2).elim
      · refine lv_iconst (v := nI 1) hx hb dX4_table_26 (by decide) ?_
        refine lv_goto (tgt := 31) hx hb dX4_table_27 (by decide) ?_
        refine klx_cSv (As := [.int (nI 1)]) (rest := []) ⟨hx, hb, hml, hown, hts⟩ (c_X4_needElement l hst G B _ (nI 1) (kl_b.t (P := True) trivial)) (va_cwS 1 hts gX4_table_X4_needElement rfl rfl rfl (by decide +kernel) ⟨Nat.le_of_ble_eq_true rfl, Nat.le_of_ble_eq_true rfl⟩) hK hZ hP rfl hl.1 rfl (Nat.le_of_ble_eq_true rfl) dX4_table_31 ⟨Nat.le_of_ble_eq_true rfl, Nat.le_of_ble_eq_true rfl⟩ (fun _ _ _ _ _ _ hpx _ _ _ _ => (hpx.2.2 trivial).elim) (fun w14 H locs q15 hP => ?_)
        obtain ⟨rfl, ok17⟩ := q15
        obtain ⟨k, rfl, hk2, hk4⟩ := mt_cok_nat (c := c) ⟨c2, c7⟩
        refine lv_aload_n hx hb dX4_table_34 rfl (lv_at hl 0 rfl) ?_
        refine kl_get (C := RX4) (T := TX4) (N := 16) (ci := 4) hx hb hts hinX4 hown hK hP k0 rfl 0 (by decide) (hts (.fieldLink RX4 9 "KinLedger" "columnCounts" "[I") (by decide +kernel)) (fun _ h9 => h9) rfl dX4_table_35 ?_
        refine lv_aload_n hx hb dX4_table_38 rfl (lv_at hl 0 rfl) ?_
        refine kl_get (C := RX4) (T := TX4) (N := 16) (ci := 4) hx hb hts hinX4 hown hK hP k0 rfl 1 (by decide) (hts (.fieldLink RX4 13 "KinLedger" "tableCount" "I") (by decide +kernel)) (fun _ h9 => h9) rfl dX4_table_39 ?_
        refine lv_iload_n hx hb dX4_table_42 rfl (lv_at hl 1 rfl) ?_
        refine kl_iast hx hb hK hP k1 (by omega) (by omega) dX4_table_43 (fun w18 H locs f19 fr20 hzw18 hP => ?_)
        rw [kl_nup_upd] at f19
        have k0 : w18 0 = some (.inr (4, [.ref (B + 1), .int (nI nT), .ref (B + 2), .int (nI nL), .ref (B + 3), .int (nI nS), .ref (B + 4), .int (nI nC), .ref (B + 5), .int (nI nW), .ref (B + 6), .ref (B + 9), .ref (B + 12), .int (nI nM), .ref (B + 13), .int rs])) := (fr20 _ (by decide)).trans k0
        have frm : ∀ j : Nat, j ≠ 0 → j ≠ 1 → w18 j = w j := fun j k0 k1 => (fr20 j k1).trans (frm j k0 k1)
        refine lv_aload_n hx hb dX4_table_44 rfl (lv_at hl 0 rfl) ?_
        refine lv_dup hx hb dX4_table_45 rfl ?_
        refine kl_get (C := RX4) (T := TX4) (N := 16) (ci := 4) hx hb hts hinX4 hown hK hP k0 rfl 1 (by decide) (hts (.fieldLink RX4 13 "KinLedger" "tableCount" "I") (by decide +kernel)) (fun _ h9 => h9) rfl dX4_table_46 ?_
        refine lv_iconst (v := nI 1) hx hb dX4_table_49 (by decide) ?_
        refine lv_iadd hx hb dX4_table_50 ?_
        refine kl_top (z := nI (nT + 1)) (by first | exact nI_add _ _ | (rw [nI_add]; first | rfl | (congr 1; omega))) ?_
        refine kl_put (C := RX4) (T := TX4) (N := 16) (ci := 4) (v := .int (nI (nT + 1))) (ty := .int) hx hb hts hinX4 tyX4 tyX4_ok nmX4 hown hK hP k0 rfl 1 (by decide) (hts (.fieldLink RX4 13 "KinLedger" "tableCount" "I") (by decide +kernel)) (fun _ h9 => h9) rfl (by decide +kernel) rfl rfl (Nat.le_of_ble_eq_true rfl) dX4_table_51 (fun w21 H locs f22 fr23 hzw21 hP => ?_)
        have f22 : w21 0 = some (.inr (4, [.ref (B + 1), .int (nI (nT + 1)), .ref (B + 2), .int (nI nL), .ref (B + 3), .int (nI nS), .ref (B + 4), .int (nI nC), .ref (B + 5), .int (nI nW), .ref (B + 6), .ref (B + 9), .ref (B + 12), .int (nI nM), .ref (B + 13), .int rs])) := f22
        have f19 : w21 1 = some (kl_aI G 4 ((fun t => nI ((kl_nup cn nT k) t)))) := (fr23 _ (by decide)).trans f19
        have frm : ∀ j : Nat, j ≠ 0 → j ≠ 1 → w21 j = w j := fun j k0 k1 => (fr23 j k0).trans (frm j k0 k1)
        refine lv_aload_n hx hb dX4_table_54 rfl (lv_at hl 0 rfl) ?_
        refine kl_get (C := RX4) (T := TX4) (N := 16) (ci := 4) hx hb hts hinX4 hown hK hP f22 rfl 1 (by decide) (hts (.fieldLink RX4 13 "KinLedger" "tableCount" "I") (by decide +kernel)) (fun _ h9 => h9) rfl dX4_table_55 ?_
        refine lv_iconst (v := nI 1) hx hb dX4_table_58 (by decide) ?_
        refine lv_isub hx hb dX4_table_59 ?_
        refine kl_top (z := nI nT) (by first | exact pk_sub (by omega) | (rw [pk_sub (by omega)]; congr 1; omega)) ?_
        refine W.widen (k := 2) (n := 12) (by omega) (by omega) ?_
        refine vx_ret ?_
        exact kl_iret hx hb hr hlocks hP ⟨c23, rfl, ⟨k, rfl, hk2, hk4, f19⟩, f22, frm⟩ dX4_table_60

abbrev rm_X4_word : Room := { frames := 7, cells := 2, slots := 12, locals := 110 }
set_option maxHeartbeats 4000000 in
set_option maxRecDepth 100000 in
theorem c_X4_word (l : Launch) (hst : l.stackTraces = false) (G : kl_G) (B : Nat) (w : kl_M) {nT nW nM : Nat} {rs : Int32} {nL nS nC : Nat} {wt : Nat → Nat} (x : Int32) (k0 : w 0 = some (.inr (4, [.ref (B + 1), .int (nI nT), .ref (B + 2), .int (nI nL), .ref (B + 3), .int (nI nS), .ref (B + 4), .int (nI nC), .ref (B + 5), .int (nI nW), .ref (B + 6), .ref (B + 9), .ref (B + 12), .int (nI nM), .ref (B + 13), .int rs]))) (k5 : w 5 = some (kl_aI G 10 ((fun i => nI (wt i))))) (hn : nW ≤ 10) : vx_Met l yX4_word wsX4_word rm_X4_word (kl_Px G B w [.ref (B + 0), .int x]) (kl_Qi G B (fun r w1 => nW < 10 ∧ r = nI (nW + 1) ∧ (∃ k, x = nI k ∧ mt_wok k ∧ w1 5 = some (kl_aI G 10 (fun t => nI (kl_nup wt nW k t)))) ∧ w1 0 = some (.inr (4, [.ref (B + 1), .int (nI nT), .ref (B + 2), .int (nI nL), .ref (B + 3), .int (nI nS), .ref (B + 4), .int (nI nC), .ref (B + 5), .int (nI (nW + 1)), .ref (B + 6), .ref (B + 9), .ref (B + 12), .int (nI nM), .ref (B + 13), .int rs])) ∧ ∀ j : Nat, j ≠ 0 → j ≠ 5 → w1 j = w j)) (kl_X G B (fun E w1 => (E = "java/lang/IllegalArgumentException" ∧ w1 = w ∧ ¬ mt_word x) ∨ (E = "java/util/NoSuchElementException" ∧ w1 = w ∧ mt_word x ∧ ¬ nW < 10))) 2 12 (kl_fr B) := by
  refine vx_ofW (cc := cX4_word) (maxL := 2) (ret := (some .int)) (by decide) rfl ?_
  intro pg e s m args below meth cd s₁ Bd hml hout hv
  obtain ⟨rfl, hP0, hK, hZ⟩ := hv
  have hx := Bd.exec
  have hb := Bd.bytes
  have hr := Bd.returns
  have hts := atoms_spec (ws := wsX4_word) Bd.pre
  have hown : s.vm.findClass RX4 = some m.cls := findClass_of_methodNamed Bd.named
  have hlocks := Bd.notSynchronized
  have hinX4 : ∀ w ∈ u_ws RX4 TX4 16, w ∈ wsX4_word := by decide +kernel
  have hP := kl_S.rf hP0
  have hl := lv_entry ([.ref (B + 0), .int x]) (n := 2) (Nat.le_of_ble_eq_true rfl)
  rw [lg_entry_eq]
  generalize (lg_sl ([.ref (B + 0), .int x]) ++ List.replicate (2 - (lg_sl ([.ref (B + 0), .int x])).length) Slot.unset).toArray = ls at hl ⊢
  have hl : lv_has ls 2 [(0, .ref (B + 0)), (1, .int x)] := hl
  have frm : ∀ j : Nat, j ≠ 0 → j ≠ 5 → w j = w j := fun j _ _ => rfl
  refine lv_iload_n hx hb dX4_word_0 rfl (lv_at hl 1 rfl) ?_
  refine kl_cSi (As := [.int x]) (rest := []) ⟨hx, hb, hml, hown, hts⟩ (c_X0_isWord l G B _ x) (va_cwS 1 hts gX4_word_X0_isWord rfl rfl rfl (by decide +kernel) ⟨Nat.le_of_ble_eq_true rfl, Nat.le_of_ble_eq_true rfl⟩) hK hP rfl hl.1 rfl (Nat.le_of_ble_eq_true rfl) dX4_word_1 ⟨Nat.le_of_ble_eq_true rfl, Nat.le_of_ble_eq_true rfl⟩ (fun r3 w1 H locs q2 hP => ?_)
  obtain ⟨rfl, hv4⟩ := q2
  refine klx_cSv (As := [.int r3]) (rest := []) ⟨hx, hb, hml, hown, hts⟩ (c_X4_needArgument l hst G B _ r3 hv4) (va_cwS 1 hts gX4_word_X4_needArgument rfl rfl rfl (by decide +kernel) ⟨Nat.le_of_ble_eq_true rfl, Nat.le_of_ble_eq_true rfl⟩) hK hZ hP rfl hl.1 rfl (Nat.le_of_ble_eq_true rfl) dX4_word_4 ⟨Nat.le_of_ble_eq_true rfl, Nat.le_of_ble_eq_true rfl⟩ (fun E ce q9 w9 H locs hpx hP h9 hv9 hc9 => kl_out hout hlocks hP (Or.inl ⟨hpx.1, hpx.2.1.symm, hpx.2.2⟩) h9 hv9 hc9 (Nat.le_of_ble_eq_true rfl) (Nat.le_of_ble_eq_true rfl)) (fun w5 H locs q6 hP => ?_)
  obtain ⟨rfl, ok8⟩ := q6
  refine lv_aload_n hx hb dX4_word_7 rfl (lv_at hl 0 rfl) ?_
  refine kl_get (C := RX4) (T := TX4) (N := 16) (ci := 4) hx hb hts hinX4 hown hK hP k0 rfl 9 (by decide) (hts (.fieldLink RX4 47 "KinLedger" "waitingCount" "I") (by decide +kernel)) (fun _ h9 => h9) rfl dX4_word_8 ?_
  refine lv_bipush (v := nI 10) hx hb dX4_word_11 (by decide) ?_
  refine kl_ge (tgt := 20) hx hb (by omega) (by omega) dX4_word_13 (by decide) (fun c13 => ?_) (fun c13 => ?_)
  · refine lv_iconst (v := nI 0) hx hb dX4_word_20 (by decide) ?_
    refine klx_cSv (As := [.int (nI 0)]) (rest := []) ⟨hx, hb, hml, hown, hts⟩ (c_X4_needElement l hst G B _ (nI 0) (kl_b.f (P := False) not_false)) (va_cwS 1 hts gX4_word_X4_needElement rfl rfl rfl (by decide +kernel) ⟨Nat.le_of_ble_eq_true rfl, Nat.le_of_ble_eq_true rfl⟩) hK hZ hP rfl hl.1 rfl (Nat.le_of_ble_eq_true rfl) dX4_word_21 ⟨Nat.le_of_ble_eq_true rfl, Nat.le_of_ble_eq_true rfl⟩ (fun E ce q9 w9 H locs hpx hP h9 hv9 hc9 => kl_out hout hlocks hP (Or.inr ⟨hpx.1, hpx.2.1.symm, ok8, by omega⟩) h9 hv9 hc9 (Nat.le_of_ble_eq_true rfl) (Nat.le_of_ble_eq_true rfl)) (fun w9 H locs q10 hP => ?_)
    exact (q10.2).elim
  · refine lv_iconst (v := nI 1) hx hb dX4_word_16 (by decide) ?_
    refine lv_goto (tgt := 21) hx hb dX4_word_17 (by decide) ?_
    refine klx_cSv (As := [.int (nI 1)]) (rest := []) ⟨hx, hb, hml, hown, hts⟩ (c_X4_needElement l hst G B _ (nI 1) (kl_b.t (P := True) trivial)) (va_cwS 1 hts gX4_word_X4_needElement rfl rfl rfl (by decide +kernel) ⟨Nat.le_of_ble_eq_true rfl, Nat.le_of_ble_eq_true rfl⟩) hK hZ hP rfl hl.1 rfl (Nat.le_of_ble_eq_true rfl) dX4_word_21 ⟨Nat.le_of_ble_eq_true rfl, Nat.le_of_ble_eq_true rfl⟩ (fun _ _ _ _ _ _ hpx _ _ _ _ => (hpx.2.2 trivial).elim) (fun w12 H locs q13 hP => ?_)
    obtain ⟨rfl, ok15⟩ := q13
    obtain ⟨k, rfl, hk⟩ := mt_word_nat (w := x) ok8
    refine lv_aload_n hx hb dX4_word_24 rfl (lv_at hl 0 rfl) ?_
    refine kl_get (C := RX4) (T := TX4) (N := 16) (ci := 4) hx hb hts hinX4 hown hK hP k0 rfl 8 (by decide) (hts (.fieldLink RX4 44 "KinLedger" "waiting" "[I") (by decide +kernel)) (fun _ h9 => h9) rfl dX4_word_25 ?_
    refine lv_aload_n hx hb dX4_word_28 rfl (lv_at hl 0 rfl) ?_
    refine kl_get (C := RX4) (T := TX4) (N := 16) (ci := 4) hx hb hts hinX4 hown hK hP k0 rfl 9 (by decide) (hts (.fieldLink RX4 47 "KinLedger" "waitingCount" "I") (by decide +kernel)) (fun _ h9 => h9) rfl dX4_word_29 ?_
    refine lv_iload_n hx hb dX4_word_32 rfl (lv_at hl 1 rfl) ?_
    refine kl_iast hx hb hK hP k5 (by omega) (by omega) dX4_word_33 (fun w16 H locs f17 fr18 hzw16 hP => ?_)
    rw [kl_nup_upd] at f17
    have k0 : w16 0 = some (.inr (4, [.ref (B + 1), .int (nI nT), .ref (B + 2), .int (nI nL), .ref (B + 3), .int (nI nS), .ref (B + 4), .int (nI nC), .ref (B + 5), .int (nI nW), .ref (B + 6), .ref (B + 9), .ref (B + 12), .int (nI nM), .ref (B + 13), .int rs])) := (fr18 _ (by decide)).trans k0
    have frm : ∀ j : Nat, j ≠ 0 → j ≠ 5 → w16 j = w j := fun j k0 k1 => (fr18 j k1).trans (frm j k0 k1)
    refine lv_aload_n hx hb dX4_word_34 rfl (lv_at hl 0 rfl) ?_
    refine lv_dup hx hb dX4_word_35 rfl ?_
    refine kl_get (C := RX4) (T := TX4) (N := 16) (ci := 4) hx hb hts hinX4 hown hK hP k0 rfl 9 (by decide) (hts (.fieldLink RX4 47 "KinLedger" "waitingCount" "I") (by decide +kernel)) (fun _ h9 => h9) rfl dX4_word_36 ?_
    refine lv_iconst (v := nI 1) hx hb dX4_word_39 (by decide) ?_
    refine lv_iadd hx hb dX4_word_40 ?_
    refine kl_top (z := nI (nW + 1)) (by first | exact nI_add _ _ | (rw [nI_add]; first | rfl | (congr 1; omega))) ?_
    refine kl_put (C := RX4) (T := TX4) (N := 16) (ci := 4) (v := .int (nI (nW + 1))) (ty := .int) hx hb hts hinX4 tyX4 tyX4_ok nmX4 hown hK hP k0 rfl 9 (by decide) (hts (.fieldLink RX4 47 "KinLedger" "waitingCount" "I") (by decide +kernel)) (fun _ h9 => h9) rfl (by decide +kernel) rfl rfl (Nat.le_of_ble_eq_true rfl) dX4_word_41 (fun w19 H locs f20 fr21 hzw19 hP => ?_)
    have f20 : w19 0 = some (.inr (4, [.ref (B + 1), .int (nI nT), .ref (B + 2), .int (nI nL), .ref (B + 3), .int (nI nS), .ref (B + 4), .int (nI nC), .ref (B + 5), .int (nI (nW + 1)), .ref (B + 6), .ref (B + 9), .ref (B + 12), .int (nI nM), .ref (B + 13), .int rs])) := f20
    have f17 : w19 5 = some (kl_aI G 10 ((fun t => nI ((kl_nup wt nW k) t)))) := (fr21 _ (by decide)).trans f17
    have frm : ∀ j : Nat, j ≠ 0 → j ≠ 5 → w19 j = w j := fun j k0 k1 => (fr21 j k0).trans (frm j k0 k1)
    refine lv_aload_n hx hb dX4_word_44 rfl (lv_at hl 0 rfl) ?_
    refine kl_get (C := RX4) (T := TX4) (N := 16) (ci := 4) hx hb hts hinX4 hown hK hP f20 rfl 9 (by decide) (hts (.fieldLink RX4 47 "KinLedger" "waitingCount" "I") (by decide +kernel)) (fun _ h9 => h9) rfl dX4_word_45 ?_
    refine W.widen (k := 2) (n := 12) (by omega) (by omega) ?_
    refine vx_ret ?_
    exact kl_iret hx hb hr hlocks hP ⟨c13, rfl, ⟨k, rfl, hk, f17⟩, f20, frm⟩ dX4_word_48

abbrev rm_X4_keep : Room := { frames := 7, cells := 1, slots := 6, locals := 110 }
set_option maxHeartbeats 4000000 in
set_option maxRecDepth 100000 in
theorem c_X4_keep (l : Launch) (hst : l.stackTraces = false) (G : kl_G) (B : Nat) (w : kl_M) {nT nW nM : Nat} {rs : Int32} {nL nS nC : Nat} {T C : Nat → Int32} {mT mC : Nat → Nat → Int32} (k0 : w 0 = some (.inr (4, [.ref (B + 1), .int (nI nT), .ref (B + 2), .int (nI nL), .ref (B + 3), .int (nI nS), .ref (B + 4), .int (nI nC), .ref (B + 5), .int (nI nW), .ref (B + 6), .ref (B + 9), .ref (B + 12), .int (nI nM), .ref (B + 13), .int rs]))) (k6 : w 6 = some (.inr (2, [.ref (B + 7), .ref (B + 8)]))) (k7 : w 7 = some (kl_aI G 24 T)) (k8 : w 8 = some (kl_aI G 96 C)) (k12 : w 12 = some (kl_aR G 6 4 ((fun j => some (B + (14 + 3 * j)))))) (k14 : w 14 = some (.inr (2, [.ref (B + 15), .ref (B + 16)]))) (k15 : w 15 = some (kl_aI G 24 ((mT 0)))) (k16 : w 16 = some (kl_aI G 96 ((mC 0)))) (k17 : w 17 = some (.inr (2, [.ref (B + 18), .ref (B + 19)]))) (k18 : w 18 = some (kl_aI G 24 ((mT 1)))) (k19 : w 19 = some (kl_aI G 96 ((mC 1)))) (k20 : w 20 = some (.inr (2, [.ref (B + 21), .ref (B + 22)]))) (k21 : w 21 = some (kl_aI G 24 ((mT 2)))) (k22 : w 22 = some (kl_aI G 96 ((mC 2)))) (k23 : w 23 = some (.inr (2, [.ref (B + 24), .ref (B + 25)]))) (k24 : w 24 = some (kl_aI G 24 ((mT 3)))) (k25 : w 25 = some (kl_aI G 96 ((mC 3)))) (m9 : Nat) (hm9 : m9 = nM) (hn : nM ≤ 4) : vx_Met l yX4_keep wsX4_keep rm_X4_keep (kl_Px G B w [.ref (B + 0)]) (kl_Qi G B (fun r w1 => nM < 4 ∧ r = nI (nM + 1) ∧ w1 (15 + 3 * nM) = some (kl_aI G 24 T) ∧ w1 (16 + 3 * nM) = some (kl_aI G 96 C) ∧ w1 0 = some (.inr (4, [.ref (B + 1), .int (nI nT), .ref (B + 2), .int (nI nL), .ref (B + 3), .int (nI nS), .ref (B + 4), .int (nI nC), .ref (B + 5), .int (nI nW), .ref (B + 6), .ref (B + 9), .ref (B + 12), .int (nI (nM + 1)), .ref (B + 13), .int rs])) ∧ ∀ j : Nat, j ≠ 0 → j ≠ 15 + 3 * nM → j ≠ 16 + 3 * nM → w1 j = w j)) (kl_X G B (fun E w1 => (E = "java/util/NoSuchElementException" ∧ w1 = w ∧ ¬ nM < 4))) 1 6 (kl_fr B) := by
  refine vx_ofW (cc := cX4_keep) (maxL := 1) (ret := (some .int)) (by decide) rfl ?_
  intro pg e s m args below meth cd s₁ Bd hml hout hv
  obtain ⟨rfl, hP0, hK, hZ⟩ := hv
  have hx := Bd.exec
  have hb := Bd.bytes
  have hr := Bd.returns
  have hts := atoms_spec (ws := wsX4_keep) Bd.pre
  have hown : s.vm.findClass RX4 = some m.cls := findClass_of_methodNamed Bd.named
  have hlocks := Bd.notSynchronized
  have hinX4 : ∀ w ∈ u_ws RX4 TX4 16, w ∈ wsX4_keep := by decide +kernel
  have hP := kl_S.rf hP0
  have hl := lv_entry ([.ref (B + 0)]) (n := 1) (Nat.le_of_ble_eq_true rfl)
  rw [lg_entry_eq]
  generalize (lg_sl ([.ref (B + 0)]) ++ List.replicate (1 - (lg_sl ([.ref (B + 0)])).length) Slot.unset).toArray = ls at hl ⊢
  have hl : lv_has ls 1 [(0, .ref (B + 0))] := hl
  have frm : ∀ j : Nat, j ≠ 0 → j ≠ (15 + 3 * m9) → j ≠ (16 + 3 * m9) → w j = w j := fun j _ _ _ => rfl
  refine lv_aload_n hx hb dX4_keep_0 rfl (lv_at hl 0 rfl) ?_
  refine kl_get (C := RX4) (T := TX4) (N := 16) (ci := 4) hx hb hts hinX4 hown hK hP k0 rfl 13 (by decide) (hts (.fieldLink RX4 64 "KinLedger" "rememberedCount" "I") (by decide +kernel)) (fun _ h9 => h9) rfl dX4_keep_1 ?_
  refine lv_iconst (v := nI 4) hx hb dX4_keep_4 (by decide) ?_
  refine kl_ge (tgt := 12) hx hb (by omega) (by omega) dX4_keep_5 (by decide) (fun c5 => ?_) (fun c5 => ?_)
  · refine lv_iconst (v := nI 0) hx hb dX4_keep_12 (by decide) ?_
    refine klx_cSv (As := [.int (nI 0)]) (rest := []) ⟨hx, hb, hml, hown, hts⟩ (c_X4_needElement l hst G B _ (nI 0) (kl_b.f (P := False) not_false)) (va_cwS 1 hts gX4_keep_X4_needElement rfl rfl rfl (by decide +kernel) ⟨Nat.le_of_ble_eq_true rfl, Nat.le_of_ble_eq_true rfl⟩) hK hZ hP rfl hl.1 rfl (Nat.le_of_ble_eq_true rfl) dX4_keep_13 ⟨Nat.le_of_ble_eq_true rfl, Nat.le_of_ble_eq_true rfl⟩ (fun E ce q9 w9 H locs hpx hP h9 hv9 hc9 => kl_out hout hlocks hP (⟨hpx.1, hpx.2.1.symm, by omega⟩) h9 hv9 hc9 (Nat.le_of_ble_eq_true rfl) (Nat.le_of_ble_eq_true rfl)) (fun w1 H locs q2 hP => ?_)
    exact (q2.2).elim
  · refine lv_iconst (v := nI 1) hx hb dX4_keep_8 (by decide) ?_
    refine lv_goto (tgt := 13) hx hb dX4_keep_9 (by decide) ?_
    refine klx_cSv (As := [.int (nI 1)]) (rest := []) ⟨hx, hb, hml, hown, hts⟩ (c_X4_needElement l hst G B _ (nI 1) (kl_b.t (P := True) trivial)) (va_cwS 1 hts gX4_keep_X4_needElement rfl rfl rfl (by decide +kernel) ⟨Nat.le_of_ble_eq_true rfl, Nat.le_of_ble_eq_true rfl⟩) hK hZ hP rfl hl.1 rfl (Nat.le_of_ble_eq_true rfl) dX4_keep_13 ⟨Nat.le_of_ble_eq_true rfl, Nat.le_of_ble_eq_true rfl⟩ (fun _ _ _ _ _ _ hpx _ _ _ _ => (hpx.2.2 trivial).elim) (fun w4 H locs q5 hP => ?_)
    obtain ⟨rfl, ok7⟩ := q5
    rcases (show nM = 0 ∨ nM = 1 ∨ nM = 2 ∨ nM = 3 by omega) with rfl | rfl | rfl | rfl
    · refine lv_aload_n hx hb dX4_keep_16 rfl (lv_at hl 0 rfl) ?_
      refine kl_get (C := RX4) (T := TX4) (N := 16) (ci := 4) hx hb hts hinX4 hown hK hP k0 rfl 12 (by decide) (hts (.fieldLink RX4 60 "KinLedger" "remembered" "[LKinLedger$Rows;") (by decide +kernel)) (fun _ h9 => h9) rfl dX4_keep_17 ?_
      refine lv_aload_n hx hb dX4_keep_20 rfl (lv_at hl 0 rfl) ?_
      refine kl_get (C := RX4) (T := TX4) (N := 16) (ci := 4) hx hb hts hinX4 hown hK hP k0 rfl 13 (by decide) (hts (.fieldLink RX4 64 "KinLedger" "rememberedCount" "I") (by decide +kernel)) (fun _ h9 => h9) rfl dX4_keep_21 ?_
      refine kl_aald hx hb hK hP 6 (k0 := 6) k12 rfl (by omega) (by omega) (show _ = some (B + 14) from rfl) dX4_keep_24 ?_
      refine lv_aload_n hx hb dX4_keep_25 rfl (lv_at hl 0 rfl) ?_
      refine kl_get (C := RX4) (T := TX4) (N := 16) (ci := 4) hx hb hts hinX4 hown hK hP k0 rfl 10 (by decide) (hts (.fieldLink RX4 53 "KinLedger" "rows" "LKinLedger$Rows;") (by decide +kernel)) (fun _ h9 => h9) rfl dX4_keep_26 ?_
      refine kl_cVv (C := RX2) (i := 14) (As := [.ref (B + 6)]) (rest := []) ⟨hx, hb, hml, hown, hts⟩ (c_X2_become l G B _ 14 15 16 6 7 8 k14 k15 k16 k6 k7 k8 (by omega)) (cwV 1 hts gX4_keep_X2_become rfl rfl rfl (by decide +kernel) ⟨Nat.le_of_ble_eq_true rfl, Nat.le_of_ble_eq_true rfl⟩) hK hP k14 rfl rfl hl.1 rfl (Nat.le_of_ble_eq_true rfl) dX4_keep_29 ⟨Nat.le_of_ble_eq_true rfl, Nat.le_of_ble_eq_true rfl⟩ (fun w8 H locs q9 hP => ?_)
      obtain ⟨f11, f12, fr13⟩ := q9
      have k0 : w8 0 = some (.inr (4, [.ref (B + 1), .int (nI nT), .ref (B + 2), .int (nI nL), .ref (B + 3), .int (nI nS), .ref (B + 4), .int (nI nC), .ref (B + 5), .int (nI nW), .ref (B + 6), .ref (B + 9), .ref (B + 12), .int (nI 0), .ref (B + 13), .int rs])) := (fr13 _ (by decide) (by decide)).trans k0
      have k6 : w8 6 = some (.inr (2, [.ref (B + 7), .ref (B + 8)])) := (fr13 _ (by decide) (by decide)).trans k6
      have k7 : w8 7 = some (kl_aI G 24 T) := (fr13 _ (by decide) (by decide)).trans k7
      have k8 : w8 8 = some (kl_aI G 96 C) := (fr13 _ (by decide) (by decide)).trans k8
      have k12 : w8 12 = some (kl_aR G 6 4 ((fun j => some (B + (14 + 3 * j))))) := (fr13 _ (by decide) (by decide)).trans k12
      have k14 : w8 14 = some (.inr (2, [.ref (B + 15), .ref (B + 16)])) := (fr13 _ (by decide) (by decide)).trans k14
      have k17 : w8 17 = some (.inr (2, [.ref (B + 18), .ref (B + 19)])) := (fr13 _ (by decide) (by decide)).trans k17
      have k18 : w8 18 = some (kl_aI G 24 ((mT 1))) := (fr13 _ (by decide) (by decide)).trans k18
      have k19 : w8 19 = some (kl_aI G 96 ((mC 1))) := (fr13 _ (by decide) (by decide)).trans k19
      have k20 : w8 20 = some (.inr (2, [.ref (B + 21), .ref (B + 22)])) := (fr13 _ (by decide) (by decide)).trans k20
      have k21 : w8 21 = some (kl_aI G 24 ((mT 2))) := (fr13 _ (by decide) (by decide)).trans k21
      have k22 : w8 22 = some (kl_aI G 96 ((mC 2))) := (fr13 _ (by decide) (by decide)).trans k22
      have k23 : w8 23 = some (.inr (2, [.ref (B + 24), .ref (B + 25)])) := (fr13 _ (by decide) (by decide)).trans k23
      have k24 : w8 24 = some (kl_aI G 24 ((mT 3))) := (fr13 _ (by decide) (by decide)).trans k24
      have k25 : w8 25 = some (kl_aI G 96 ((mC 3))) := (fr13 _ (by decide) (by decide)).trans k25
      have frm : ∀ j : Nat, j ≠ 0 → j ≠ (15 + 3 * m9) → j ≠ (16 + 3 * m9) → w8 j = w j := fun j k0 k1 k2 => (fr13 j (by omega) (by omega)).trans (frm j k0 k1 k2)
      refine lv_aload_n hx hb dX4_keep_32 rfl (lv_at hl 0 rfl) ?_
      refine lv_dup hx hb dX4_keep_33 rfl ?_
      refine kl_get (C := RX4) (T := TX4) (N := 16) (ci := 4) hx hb hts hinX4 hown hK hP k0 rfl 13 (by decide) (hts (.fieldLink RX4 64 "KinLedger" "rememberedCount" "I") (by decide +kernel)) (fun _ h9 => h9) rfl dX4_keep_34 ?_
      refine lv_iconst (v := nI 1) hx hb dX4_keep_37 (by decide) ?_
      refine lv_iadd hx hb dX4_keep_38 ?_
      refine kl_top (z := nI 1) (by first | exact nI_add _ _ | (rw [nI_add]; first | rfl | (congr 1; omega))) ?_
      refine kl_put (C := RX4) (T := TX4) (N := 16) (ci := 4) (v := .int (nI 1)) (ty := .int) hx hb hts hinX4 tyX4 tyX4_ok nmX4 hown hK hP k0 rfl 13 (by decide) (hts (.fieldLink RX4 64 "KinLedger" "rememberedCount" "I") (by decide +kernel)) (fun _ h9 => h9) rfl (by decide +kernel) rfl rfl (Nat.le_of_ble_eq_true rfl) dX4_keep_39 (fun w14 H locs f15 fr16 hzw14 hP => ?_)
      have f15 : w14 0 = some (.inr (4, [.ref (B + 1), .int (nI nT), .ref (B + 2), .int (nI nL), .ref (B + 3), .int (nI nS), .ref (B + 4), .int (nI nC), .ref (B + 5), .int (nI nW), .ref (B + 6), .ref (B + 9), .ref (B + 12), .int (nI 1), .ref (B + 13), .int rs])) := f15
      have k6 : w14 6 = some (.inr (2, [.ref (B + 7), .ref (B + 8)])) := (fr16 _ (by decide)).trans k6
      have k7 : w14 7 = some (kl_aI G 24 T) := (fr16 _ (by decide)).trans k7
      have k8 : w14 8 = some (kl_aI G 96 C) := (fr16 _ (by decide)).trans k8
      have k12 : w14 12 = some (kl_aR G 6 4 ((fun j => some (B + (14 + 3 * j))))) := (fr16 _ (by decide)).trans k12
      have k14 : w14 14 = some (.inr (2, [.ref (B + 15), .ref (B + 16)])) := (fr16 _ (by decide)).trans k14
      have f11 : w14 15 = some (kl_aI G 24 T) := (fr16 _ (by decide)).trans f11
      have f12 : w14 16 = some (kl_aI G 96 C) := (fr16 _ (by decide)).trans f12
      have k17 : w14 17 = some (.inr (2, [.ref (B + 18), .ref (B + 19)])) := (fr16 _ (by decide)).trans k17
      have k18 : w14 18 = some (kl_aI G 24 ((mT 1))) := (fr16 _ (by decide)).trans k18
      have k19 : w14 19 = some (kl_aI G 96 ((mC 1))) := (fr16 _ (by decide)).trans k19
      have k20 : w14 20 = some (.inr (2, [.ref (B + 21), .ref (B + 22)])) := (fr16 _ (by decide)).trans k20
      have k21 : w14 21 = some (kl_aI G 24 ((mT 2))) := (fr16 _ (by decide)).trans k21
      have k22 : w14 22 = some (kl_aI G 96 ((mC 2))) := (fr16 _ (by decide)).trans k22
      have k23 : w14 23 = some (.inr (2, [.ref (B + 24), .ref (B + 25)])) := (fr16 _ (by decide)).trans k23
      have k24 : w14 24 = some (kl_aI G 24 ((mT 3))) := (fr16 _ (by decide)).trans k24
      have k25 : w14 25 = some (kl_aI G 96 ((mC 3))) := (fr16 _ (by decide)).trans k25
      have frm : ∀ j : Nat, j ≠ 0 → j ≠ (15 + 3 * m9) → j ≠ (16 + 3 * m9) → w14 j = w j := fun j k0 k1 k2 => (fr16 j k0).trans (frm j k0 k1 k2)
      refine lv_aload_n hx hb dX4_keep_42 rfl (lv_at hl 0 rfl) ?_
      refine kl_get (C := RX4) (T := TX4) (N := 16) (ci := 4) hx hb hts hinX4 hown hK hP f15 rfl 13 (by decide) (hts (.fieldLink RX4 64 "KinLedger" "rememberedCount" "I") (by decide +kernel)) (fun _ h9 => h9) rfl dX4_keep_43 ?_
      refine W.widen (k := 1) (n := 6) (by omega) (by omega) ?_
      refine vx_ret ?_
      exact kl_iret hx hb hr hlocks hP (by subst hm9; exact ⟨by decide, rfl, f11, f12, f15, frm⟩) dX4_keep_46
    · refine lv_aload_n hx hb dX4_keep_16 rfl (lv_at hl 0 rfl) ?_
      refine kl_get (C := RX4) (T := TX4) (N := 16) (ci := 4) hx hb hts hinX4 hown hK hP k0 rfl 12 (by decide) (hts (.fieldLink RX4 60 "KinLedger" "remembered" "[LKinLedger$Rows;") (by decide +kernel)) (fun _ h9 => h9) rfl dX4_keep_17 ?_
      refine lv_aload_n hx hb dX4_keep_20 rfl (lv_at hl 0 rfl) ?_
      refine kl_get (C := RX4) (T := TX4) (N := 16) (ci := 4) hx hb hts hinX4 hown hK hP k0 rfl 13 (by decide) (hts (.fieldLink RX4 64 "KinLedger" "rememberedCount" "I") (by decide +kernel)) (fun _ h9 => h9) rfl dX4_keep_21 ?_
      refine kl_aald hx hb hK hP 6 (k0 := 6) k12 rfl (by omega) (by omega) (show _ = some (B + 17) from rfl) dX4_keep_24 ?_
      refine lv_aload_n hx hb dX4_keep_25 rfl (lv_at hl 0 rfl) ?_
      refine kl_get (C := RX4) (T := TX4) (N := 16) (ci := 4) hx hb hts hinX4 hown hK hP k0 rfl 10 (by decide) (hts (.fieldLink RX4 53 "KinLedger" "rows" "LKinLedger$Rows;") (by decide +kernel)) (fun _ h9 => h9) rfl dX4_keep_26 ?_
      refine kl_cVv (C := RX2) (i := 17) (As := [.ref (B + 6)]) (rest := []) ⟨hx, hb, hml, hown, hts⟩ (c_X2_become l G B _ 17 18 19 6 7 8 k17 k18 k19 k6 k7 k8 (by omega)) (cwV 1 hts gX4_keep_X2_become rfl rfl rfl (by decide +kernel) ⟨Nat.le_of_ble_eq_true rfl, Nat.le_of_ble_eq_true rfl⟩) hK hP k17 rfl rfl hl.1 rfl (Nat.le_of_ble_eq_true rfl) dX4_keep_29 ⟨Nat.le_of_ble_eq_true rfl, Nat.le_of_ble_eq_true rfl⟩ (fun w17 H locs q18 hP => ?_)
      obtain ⟨f20, f21, fr22⟩ := q18
      have k0 : w17 0 = some (.inr (4, [.ref (B + 1), .int (nI nT), .ref (B + 2), .int (nI nL), .ref (B + 3), .int (nI nS), .ref (B + 4), .int (nI nC), .ref (B + 5), .int (nI nW), .ref (B + 6), .ref (B + 9), .ref (B + 12), .int (nI 1), .ref (B + 13), .int rs])) := (fr22 _ (by decide) (by decide)).trans k0
      have k6 : w17 6 = some (.inr (2, [.ref (B + 7), .ref (B + 8)])) := (fr22 _ (by decide) (by decide)).trans k6
      have k7 : w17 7 = some (kl_aI G 24 T) := (fr22 _ (by decide) (by decide)).trans k7
      have k8 : w17 8 = some (kl_aI G 96 C) := (fr22 _ (by decide) (by decide)).trans k8
      have k12 : w17 12 = some (kl_aR G 6 4 ((fun j => some (B + (14 + 3 * j))))) := (fr22 _ (by decide) (by decide)).trans k12
      have k14 : w17 14 = some (.inr (2, [.ref (B + 15), .ref (B + 16)])) := (fr22 _ (by decide) (by decide)).trans k14
      have k15 : w17 15 = some (kl_aI G 24 ((mT 0))) := (fr22 _ (by decide) (by decide)).trans k15
      have k16 : w17 16 = some (kl_aI G 96 ((mC 0))) := (fr22 _ (by decide) (by decide)).trans k16
      have k17 : w17 17 = some (.inr (2, [.ref (B + 18), .ref (B + 19)])) := (fr22 _ (by decide) (by decide)).trans k17
      have k20 : w17 20 = some (.inr (2, [.ref (B + 21), .ref (B + 22)])) := (fr22 _ (by decide) (by decide)).trans k20
      have k21 : w17 21 = some (kl_aI G 24 ((mT 2))) := (fr22 _ (by decide) (by decide)).trans k21
      have k22 : w17 22 = some (kl_aI G 96 ((mC 2))) := (fr22 _ (by decide) (by decide)).trans k22
      have k23 : w17 23 = some (.inr (2, [.ref (B + 24), .ref (B + 25)])) := (fr22 _ (by decide) (by decide)).trans k23
      have k24 : w17 24 = some (kl_aI G 24 ((mT 3))) := (fr22 _ (by decide) (by decide)).trans k24
      have k25 : w17 25 = some (kl_aI G 96 ((mC 3))) := (fr22 _ (by decide) (by decide)).trans k25
      have frm : ∀ j : Nat, j ≠ 0 → j ≠ (15 + 3 * m9) → j ≠ (16 + 3 * m9) → w17 j = w j := fun j k0 k1 k2 => (fr22 j (by omega) (by omega)).trans (frm j k0 k1 k2)
      refine lv_aload_n hx hb dX4_keep_32 rfl (lv_at hl 0 rfl) ?_
      refine lv_dup hx hb dX4_keep_33 rfl ?_
      refine kl_get (C := RX4) (T := TX4) (N := 16) (ci := 4) hx hb hts hinX4 hown hK hP k0 rfl 13 (by decide) (hts (.fieldLink RX4 64 "KinLedger" "rememberedCount" "I") (by decide +kernel)) (fun _ h9 => h9) rfl dX4_keep_34 ?_
      refine lv_iconst (v := nI 1) hx hb dX4_keep_37 (by decide) ?_
      refine lv_iadd hx hb dX4_keep_38 ?_
      refine kl_top (z := nI 2) (by first | exact nI_add _ _ | (rw [nI_add]; first | rfl | (congr 1; omega))) ?_
      refine kl_put (C := RX4) (T := TX4) (N := 16) (ci := 4) (v := .int (nI 2)) (ty := .int) hx hb hts hinX4 tyX4 tyX4_ok nmX4 hown hK hP k0 rfl 13 (by decide) (hts (.fieldLink RX4 64 "KinLedger" "rememberedCount" "I") (by decide +kernel)) (fun _ h9 => h9) rfl (by decide +kernel) rfl rfl (Nat.le_of_ble_eq_true rfl) dX4_keep_39 (fun w23 H locs f24 fr25 hzw23 hP => ?_)
      have f24 : w23 0 = some (.inr (4, [.ref (B + 1), .int (nI nT), .ref (B + 2), .int (nI nL), .ref (B + 3), .int (nI nS), .ref (B + 4), .int (nI nC), .ref (B + 5), .int (nI nW), .ref (B + 6), .ref (B + 9), .ref (B + 12), .int (nI 2), .ref (B + 13), .int rs])) := f24
      have k6 : w23 6 = some (.inr (2, [.ref (B + 7), .ref (B + 8)])) := (fr25 _ (by decide)).trans k6
      have k7 : w23 7 = some (kl_aI G 24 T) := (fr25 _ (by decide)).trans k7
      have k8 : w23 8 = some (kl_aI G 96 C) := (fr25 _ (by decide)).trans k8
      have k12 : w23 12 = some (kl_aR G 6 4 ((fun j => some (B + (14 + 3 * j))))) := (fr25 _ (by decide)).trans k12
      have k14 : w23 14 = some (.inr (2, [.ref (B + 15), .ref (B + 16)])) := (fr25 _ (by decide)).trans k14
      have k15 : w23 15 = some (kl_aI G 24 ((mT 0))) := (fr25 _ (by decide)).trans k15
      have k16 : w23 16 = some (kl_aI G 96 ((mC 0))) := (fr25 _ (by decide)).trans k16
      have k17 : w23 17 = some (.inr (2, [.ref (B + 18), .ref (B + 19)])) := (fr25 _ (by decide)).trans k17
      have f20 : w23 18 = some (kl_aI G 24 T) := (fr25 _ (by decide)).trans f20
      have f21 : w23 19 = some (kl_aI G 96 C) := (fr25 _ (by decide)).trans f21
      have k20 : w23 20 = some (.inr (2, [.ref (B + 21), .ref (B + 22)])) := (fr25 _ (by decide)).trans k20
      have k21 : w23 21 = some (kl_aI G 24 ((mT 2))) := (fr25 _ (by decide)).trans k21
      have k22 : w23 22 = some (kl_aI G 96 ((mC 2))) := (fr25 _ (by decide)).trans k22
      have k23 : w23 23 = some (.inr (2, [.ref (B + 24), .ref (B + 25)])) := (fr25 _ (by decide)).trans k23
      have k24 : w23 24 = some (kl_aI G 24 ((mT 3))) := (fr25 _ (by decide)).trans k24
      have k25 : w23 25 = some (kl_aI G 96 ((mC 3))) := (fr25 _ (by decide)).trans k25
      have frm : ∀ j : Nat, j ≠ 0 → j ≠ (15 + 3 * m9) → j ≠ (16 + 3 * m9) → w23 j = w j := fun j k0 k1 k2 => (fr25 j k0).trans (frm j k0 k1 k2)
      refine lv_aload_n hx hb dX4_keep_42 rfl (lv_at hl 0 rfl) ?_
      refine kl_get (C := RX4) (T := TX4) (N := 16) (ci := 4) hx hb hts hinX4 hown hK hP f24 rfl 13 (by decide) (hts (.fieldLink RX4 64 "KinLedger" "rememberedCount" "I") (by decide +kernel)) (fun _ h9 => h9) rfl dX4_keep_43 ?_
      refine W.widen (k := 1) (n := 6) (by omega) (by omega) ?_
      refine vx_ret ?_
      exact kl_iret hx hb hr hlocks hP (by subst hm9; exact ⟨by decide, rfl, f20, f21, f24, frm⟩) dX4_keep_46
    · refine lv_aload_n hx hb dX4_keep_16 rfl (lv_at hl 0 rfl) ?_
      refine kl_get (C := RX4) (T := TX4) (N := 16) (ci := 4) hx hb hts hinX4 hown hK hP k0 rfl 12 (by decide) (hts (.fieldLink RX4 60 "KinLedger" "remembered" "[LKinLedger$Rows;") (by decide +kernel)) (fun _ h9 => h9) rfl dX4_keep_17 ?_
      refine lv_aload_n hx hb dX4_keep_20 rfl (lv_at hl 0 rfl) ?_
      refine kl_get (C := RX4) (T := TX4) (N := 16) (ci := 4) hx hb hts hinX4 hown hK hP k0 rfl 13 (by decide) (hts (.fieldLink RX4 64 "KinLedger" "rememberedCount" "I") (by decide +kernel)) (fun _ h9 => h9) rfl dX4_keep_21 ?_
      refine kl_aald hx hb hK hP 6 (k0 := 6) k12 rfl (by omega) (by omega) (show _ = some (B + 20) from rfl) dX4_keep_24 ?_
      refine lv_aload_n hx hb dX4_keep_25 rfl (lv_at hl 0 rfl) ?_
      refine kl_get (C := RX4) (T := TX4) (N := 16) (ci := 4) hx hb hts hinX4 hown hK hP k0 rfl 10 (by decide) (hts (.fieldLink RX4 53 "KinLedger" "rows" "LKinLedger$Rows;") (by decide +kernel)) (fun _ h9 => h9) rfl dX4_keep_26 ?_
      refine kl_cVv (C := RX2) (i := 20) (As := [.ref (B + 6)]) (rest := []) ⟨hx, hb, hml, hown, hts⟩ (c_X2_become l G B _ 20 21 22 6 7 8 k20 k21 k22 k6 k7 k8 (by omega)) (cwV 1 hts gX4_keep_X2_become rfl rfl rfl (by decide +kernel) ⟨Nat.le_of_ble_eq_true rfl, Nat.le_of_ble_eq_true rfl⟩) hK hP k20 rfl rfl hl.1 rfl (Nat.le_of_ble_eq_true rfl) dX4_keep_29 ⟨Nat.le_of_ble_eq_true rfl, Nat.le_of_ble_eq_true rfl⟩ (fun w26 H locs q27 hP => ?_)
      obtain ⟨f29, f30, fr31⟩ := q27
      have k0 : w26 0 = some (.inr (4, [.ref (B + 1), .int (nI nT), .ref (B + 2), .int (nI nL), .ref (B + 3), .int (nI nS), .ref (B + 4), .int (nI nC), .ref (B + 5), .int (nI nW), .ref (B + 6), .ref (B + 9), .ref (B + 12), .int (nI 2), .ref (B + 13), .int rs])) := (fr31 _ (by decide) (by decide)).trans k0
      have k6 : w26 6 = some (.inr (2, [.ref (B + 7), .ref (B + 8)])) := (fr31 _ (by decide) (by decide)).trans k6
      have k7 : w26 7 = some (kl_aI G 24 T) := (fr31 _ (by decide) (by decide)).trans k7
      have k8 : w26 8 = some (kl_aI G 96 C) := (fr31 _ (by decide) (by decide)).trans k8
      have k12 : w26 12 = some (kl_aR G 6 4 ((fun j => some (B + (14 + 3 * j))))) := (fr31 _ (by decide) (by decide)).trans k12
      have k14 : w26 14 = some (.inr (2, [.ref (B + 15), .ref (B + 16)])) := (fr31 _ (by decide) (by decide)).trans k14
      have k15 : w26 15 = some (kl_aI G 24 ((mT 0))) := (fr31 _ (by decide) (by decide)).trans k15
      have k16 : w26 16 = some (kl_aI G 96 ((mC 0))) := (fr31 _ (by decide) (by decide)).trans k16
      have k17 : w26 17 = some (.inr (2, [.ref (B + 18), .ref (B + 19)])) := (fr31 _ (by decide) (by decide)).trans k17
      have k18 : w26 18 = some (kl_aI G 24 ((mT 1))) := (fr31 _ (by decide) (by decide)).trans k18
      have k19 : w26 19 = some (kl_aI G 96 ((mC 1))) := (fr31 _ (by decide) (by decide)).trans k19
      have k20 : w26 20 = some (.inr (2, [.ref (B + 21), .ref (B + 22)])) := (fr31 _ (by decide) (by decide)).trans k20
      have k23 : w26 23 = some (.inr (2, [.ref (B + 24), .ref (B + 25)])) := (fr31 _ (by decide) (by decide)).trans k23
      have k24 : w26 24 = some (kl_aI G 24 ((mT 3))) := (fr31 _ (by decide) (by decide)).trans k24
      have k25 : w26 25 = some (kl_aI G 96 ((mC 3))) := (fr31 _ (by decide) (by decide)).trans k25
      have frm : ∀ j : Nat, j ≠ 0 → j ≠ (15 + 3 * m9) → j ≠ (16 + 3 * m9) → w26 j = w j := fun j k0 k1 k2 => (fr31 j (by omega) (by omega)).trans (frm j k0 k1 k2)
      refine lv_aload_n hx hb dX4_keep_32 rfl (lv_at hl 0 rfl) ?_
      refine lv_dup hx hb dX4_keep_33 rfl ?_
      refine kl_get (C := RX4) (T := TX4) (N := 16) (ci := 4) hx hb hts hinX4 hown hK hP k0 rfl 13 (by decide) (hts (.fieldLink RX4 64 "KinLedger" "rememberedCount" "I") (by decide +kernel)) (fun _ h9 => h9) rfl dX4_keep_34 ?_
      refine lv_iconst (v := nI 1) hx hb dX4_keep_37 (by decide) ?_
      refine lv_iadd hx hb dX4_keep_38 ?_
      refine kl_top (z := nI 3) (by first | exact nI_add _ _ | (rw [nI_add]; first | rfl | (congr 1; omega))) ?_
      refine kl_put (C := RX4) (T := TX4) (N := 16) (ci := 4) (v := .int (nI 3)) (ty := .int) hx hb hts hinX4 tyX4 tyX4_ok nmX4 hown hK hP k0 rfl 13 (by decide) (hts (.fieldLink RX4 64 "KinLedger" "rememberedCount" "I") (by decide +kernel)) (fun _ h9 => h9) rfl (by decide +kernel) rfl rfl (Nat.le_of_ble_eq_true rfl) dX4_keep_39 (fun w32 H locs f33 fr34 hzw32 hP => ?_)
      have f33 : w32 0 = some (.inr (4, [.ref (B + 1), .int (nI nT), .ref (B + 2), .int (nI nL), .ref (B + 3), .int (nI nS), .ref (B + 4), .int (nI nC), .ref (B + 5), .int (nI nW), .ref (B + 6), .ref (B + 9), .ref (B + 12), .int (nI 3), .ref (B + 13), .int rs])) := f33
      have k6 : w32 6 = some (.inr (2, [.ref (B + 7), .ref (B + 8)])) := (fr34 _ (by decide)).trans k6
      have k7 : w32 7 = some (kl_aI G 24 T) := (fr34 _ (by decide)).trans k7
      have k8 : w32 8 = some (kl_aI G 96 C) := (fr34 _ (by decide)).trans k8
      have k12 : w32 12 = some (kl_aR G 6 4 ((fun j => some (B + (14 + 3 * j))))) := (fr34 _ (by decide)).trans k12
      have k14 : w32 14 = some (.inr (2, [.ref (B + 15), .ref (B + 16)])) := (fr34 _ (by decide)).trans k14
      have k15 : w32 15 = some (kl_aI G 24 ((mT 0))) := (fr34 _ (by decide)).trans k15
      have k16 : w32 16 = some (kl_aI G 96 ((mC 0))) := (fr34 _ (by decide)).trans k16
      have k17 : w32 17 = some (.inr (2, [.ref (B + 18), .ref (B + 19)])) := (fr34 _ (by decide)).trans k17
      have k18 : w32 18 = some (kl_aI G 24 ((mT 1))) := (fr34 _ (by decide)).trans k18
      have k19 : w32 19 = some (kl_aI G 96 ((mC 1))) := (fr34 _ (by decide)).trans k19
      have k20 : w32 20 = some (.inr (2, [.ref (B + 21), .ref (B + 22)])) := (fr34 _ (by decide)).trans k20
      have f29 : w32 21 = some (kl_aI G 24 T) := (fr34 _ (by decide)).trans f29
      have f30 : w32 22 = some (kl_aI G 96 C) := (fr34 _ (by decide)).trans f30
      have k23 : w32 23 = some (.inr (2, [.ref (B + 24), .ref (B + 25)])) := (fr34 _ (by decide)).trans k23
      have k24 : w32 24 = some (kl_aI G 24 ((mT 3))) := (fr34 _ (by decide)).trans k24
      have k25 : w32 25 = some (kl_aI G 96 ((mC 3))) := (fr34 _ (by decide)).trans k25
      have frm : ∀ j : Nat, j ≠ 0 → j ≠ (15 + 3 * m9) → j ≠ (16 + 3 * m9) → w32 j = w j := fun j k0 k1 k2 => (fr34 j k0).trans (frm j k0 k1 k2)
      refine lv_aload_n hx hb dX4_keep_42 rfl (lv_at hl 0 rfl) ?_
      refine kl_get (C := RX4) (T := TX4) (N := 16) (ci := 4) hx hb hts hinX4 hown hK hP f33 rfl 13 (by decide) (hts (.fieldLink RX4 64 "KinLedger" "rememberedCount" "I") (by decide +kernel)) (fun _ h9 => h9) rfl dX4_keep_43 ?_
      refine W.widen (k := 1) (n := 6) (by omega) (by omega) ?_
      refine vx_ret ?_
      exact kl_iret hx hb hr hlocks hP (by subst hm9; exact ⟨by decide, rfl, f29, f30, f33, frm⟩) dX4_keep_46
    · refine lv_aload_n hx hb dX4_keep_16 rfl (lv_at hl 0 rfl) ?_
      refine kl_get (C := RX4) (T := TX4) (N := 16) (ci := 4) hx hb hts hinX4 hown hK hP k0 rfl 12 (by decide) (hts (.fieldLink RX4 60 "KinLedger" "remembered" "[LKinLedger$Rows;") (by decide +kernel)) (fun _ h9 => h9) rfl dX4_keep_17 ?_
      refine lv_aload_n hx hb dX4_keep_20 rfl (lv_at hl 0 rfl) ?_
      refine kl_get (C := RX4) (T := TX4) (N := 16) (ci := 4) hx hb hts hinX4 hown hK hP k0 rfl 13 (by decide) (hts (.fieldLink RX4 64 "KinLedger" "rememberedCount" "I") (by decide +kernel)) (fun _ h9 => h9) rfl dX4_keep_21 ?_
      refine kl_aald hx hb hK hP 6 (k0 := 6) k12 rfl (by omega) (by omega) (show _ = some (B + 23) from rfl) dX4_keep_24 ?_
      refine lv_aload_n hx hb dX4_keep_25 rfl (lv_at hl 0 rfl) ?_
      refine kl_get (C := RX4) (T := TX4) (N := 16) (ci := 4) hx hb hts hinX4 hown hK hP k0 rfl 10 (by decide) (hts (.fieldLink RX4 53 "KinLedger" "rows" "LKinLedger$Rows;") (by decide +kernel)) (fun _ h9 => h9) rfl dX4_keep_26 ?_
      refine kl_cVv (C := RX2) (i := 23) (As := [.ref (B + 6)]) (rest := []) ⟨hx, hb, hml, hown, hts⟩ (c_X2_become l G B _ 23 24 25 6 7 8 k23 k24 k25 k6 k7 k8 (by omega)) (cwV 1 hts gX4_keep_X2_become rfl rfl rfl (by decide +kernel) ⟨Nat.le_of_ble_eq_true rfl, Nat.le_of_ble_eq_true rfl⟩) hK hP k23 rfl rfl hl.1 rfl (Nat.le_of_ble_eq_true rfl) dX4_keep_29 ⟨Nat.le_of_ble_eq_true rfl, Nat.le_of_ble_eq_true rfl⟩ (fun w35 H locs q36 hP => ?_)
      obtain ⟨f38, f39, fr40⟩ := q36
      have k0 : w35 0 = some (.inr (4, [.ref (B + 1), .int (nI nT), .ref (B + 2), .int (nI nL), .ref (B + 3), .int (nI nS), .ref (B + 4), .int (nI nC), .ref (B + 5), .int (nI nW), .ref (B + 6), .ref (B + 9), .ref (B + 12), .int (nI 3), .ref (B + 13), .int rs])) := (fr40 _ (by decide) (by decide)).trans k0
      have k6 : w35 6 = some (.inr (2, [.ref (B + 7), .ref (B + 8)])) := (fr40 _ (by decide) (by decide)).trans k6
      have k7 : w35 7 = some (kl_aI G 24 T) := (fr40 _ (by decide) (by decide)).trans k7
      have k8 : w35 8 = some (kl_aI G 96 C) := (fr40 _ (by decide) (by decide)).trans k8
      have k12 : w35 12 = some (kl_aR G 6 4 ((fun j => some (B + (14 + 3 * j))))) := (fr40 _ (by decide) (by decide)).trans k12
      have k14 : w35 14 = some (.inr (2, [.ref (B + 15), .ref (B + 16)])) := (fr40 _ (by decide) (by decide)).trans k14
      have k15 : w35 15 = some (kl_aI G 24 ((mT 0))) := (fr40 _ (by decide) (by decide)).trans k15
      have k16 : w35 16 = some (kl_aI G 96 ((mC 0))) := (fr40 _ (by decide) (by decide)).trans k16
      have k17 : w35 17 = some (.inr (2, [.ref (B + 18), .ref (B + 19)])) := (fr40 _ (by decide) (by decide)).trans k17
      have k18 : w35 18 = some (kl_aI G 24 ((mT 1))) := (fr40 _ (by decide) (by decide)).trans k18
      have k19 : w35 19 = some (kl_aI G 96 ((mC 1))) := (fr40 _ (by decide) (by decide)).trans k19
      have k20 : w35 20 = some (.inr (2, [.ref (B + 21), .ref (B + 22)])) := (fr40 _ (by decide) (by decide)).trans k20
      have k21 : w35 21 = some (kl_aI G 24 ((mT 2))) := (fr40 _ (by decide) (by decide)).trans k21
      have k22 : w35 22 = some (kl_aI G 96 ((mC 2))) := (fr40 _ (by decide) (by decide)).trans k22
      have k23 : w35 23 = some (.inr (2, [.ref (B + 24), .ref (B + 25)])) := (fr40 _ (by decide) (by decide)).trans k23
      have frm : ∀ j : Nat, j ≠ 0 → j ≠ (15 + 3 * m9) → j ≠ (16 + 3 * m9) → w35 j = w j := fun j k0 k1 k2 => (fr40 j (by omega) (by omega)).trans (frm j k0 k1 k2)
      refine lv_aload_n hx hb dX4_keep_32 rfl (lv_at hl 0 rfl) ?_
      refine lv_dup hx hb dX4_keep_33 rfl ?_
      refine kl_get (C := RX4) (T := TX4) (N := 16) (ci := 4) hx hb hts hinX4 hown hK hP k0 rfl 13 (by decide) (hts (.fieldLink RX4 64 "KinLedger" "rememberedCount" "I") (by decide +kernel)) (fun _ h9 => h9) rfl dX4_keep_34 ?_
      refine lv_iconst (v := nI 1) hx hb dX4_keep_37 (by decide) ?_
      refine lv_iadd hx hb dX4_keep_38 ?_
      refine kl_top (z := nI 4) (by first | exact nI_add _ _ | (rw [nI_add]; first | rfl | (congr 1; omega))) ?_
      refine kl_put (C := RX4) (T := TX4) (N := 16) (ci := 4) (v := .int (nI 4)) (ty := .int) hx hb hts hinX4 tyX4 tyX4_ok nmX4 hown hK hP k0 rfl 13 (by decide) (hts (.fieldLink RX4 64 "KinLedger" "rememberedCount" "I") (by decide +kernel)) (fun _ h9 => h9) rfl (by decide +kernel) rfl rfl (Nat.le_of_ble_eq_true rfl) dX4_keep_39 (fun w41 H locs f42 fr43 hzw41 hP => ?_)
      have f42 : w41 0 = some (.inr (4, [.ref (B + 1), .int (nI nT), .ref (B + 2), .int (nI nL), .ref (B + 3), .int (nI nS), .ref (B + 4), .int (nI nC), .ref (B + 5), .int (nI nW), .ref (B + 6), .ref (B + 9), .ref (B + 12), .int (nI 4), .ref (B + 13), .int rs])) := f42
      have k6 : w41 6 = some (.inr (2, [.ref (B + 7), .ref (B + 8)])) := (fr43 _ (by decide)).trans k6
      have k7 : w41 7 = some (kl_aI G 24 T) := (fr43 _ (by decide)).trans k7
      have k8 : w41 8 = some (kl_aI G 96 C) := (fr43 _ (by decide)).trans k8
      have k12 : w41 12 = some (kl_aR G 6 4 ((fun j => some (B + (14 + 3 * j))))) := (fr43 _ (by decide)).trans k12
      have k14 : w41 14 = some (.inr (2, [.ref (B + 15), .ref (B + 16)])) := (fr43 _ (by decide)).trans k14
      have k15 : w41 15 = some (kl_aI G 24 ((mT 0))) := (fr43 _ (by decide)).trans k15
      have k16 : w41 16 = some (kl_aI G 96 ((mC 0))) := (fr43 _ (by decide)).trans k16
      have k17 : w41 17 = some (.inr (2, [.ref (B + 18), .ref (B + 19)])) := (fr43 _ (by decide)).trans k17
      have k18 : w41 18 = some (kl_aI G 24 ((mT 1))) := (fr43 _ (by decide)).trans k18
      have k19 : w41 19 = some (kl_aI G 96 ((mC 1))) := (fr43 _ (by decide)).trans k19
      have k20 : w41 20 = some (.inr (2, [.ref (B + 21), .ref (B + 22)])) := (fr43 _ (by decide)).trans k20
      have k21 : w41 21 = some (kl_aI G 24 ((mT 2))) := (fr43 _ (by decide)).trans k21
      have k22 : w41 22 = some (kl_aI G 96 ((mC 2))) := (fr43 _ (by decide)).trans k22
      have k23 : w41 23 = some (.inr (2, [.ref (B + 24), .ref (B + 25)])) := (fr43 _ (by decide)).trans k23
      have f38 : w41 24 = some (kl_aI G 24 T) := (fr43 _ (by decide)).trans f38
      have f39 : w41 25 = some (kl_aI G 96 C) := (fr43 _ (by decide)).trans f39
      have frm : ∀ j : Nat, j ≠ 0 → j ≠ (15 + 3 * m9) → j ≠ (16 + 3 * m9) → w41 j = w j := fun j k0 k1 k2 => (fr43 j k0).trans (frm j k0 k1 k2)
      refine lv_aload_n hx hb dX4_keep_42 rfl (lv_at hl 0 rfl) ?_
      refine kl_get (C := RX4) (T := TX4) (N := 16) (ci := 4) hx hb hts hinX4 hown hK hP f42 rfl 13 (by decide) (hts (.fieldLink RX4 64 "KinLedger" "rememberedCount" "I") (by decide +kernel)) (fun _ h9 => h9) rfl dX4_keep_43 ?_
      refine W.widen (k := 1) (n := 6) (by omega) (by omega) ?_
      refine vx_ret ?_
      exact kl_iret hx hb hr hlocks hP (by subst hm9; exact ⟨by decide, rfl, f38, f39, f42, frm⟩) dX4_keep_46

abbrev rm_X4_reason : Room := { frames := 0, cells := 0, slots := 0, locals := 0 }
set_option maxHeartbeats 4000000 in
set_option maxRecDepth 100000 in
theorem c_X4_reason (l : Launch) (hst : l.stackTraces = false) (G : kl_G) (B : Nat) (w : kl_M) {nT nW nM : Nat} {rs : Int32} {nL nS nC : Nat} (k0 : w 0 = some (.inr (4, [.ref (B + 1), .int (nI nT), .ref (B + 2), .int (nI nL), .ref (B + 3), .int (nI nS), .ref (B + 4), .int (nI nC), .ref (B + 5), .int (nI nW), .ref (B + 6), .ref (B + 9), .ref (B + 12), .int (nI nM), .ref (B + 13), .int rs])))  : vx_Met l yX4_reason wsX4_reason rm_X4_reason (kl_Px G B w [.ref (B + 0)]) (kl_Qi G B (fun r w1 => w = w1 ∧ r = rs)) (kl_X G B (fun E w1 => False)) 0 0 (kl_fr B) := by
  refine vx_ofW (cc := cX4_reason) (maxL := 1) (ret := (some .int)) (by decide) rfl ?_
  intro pg e s m args below meth cd s₁ Bd hml hout hv
  obtain ⟨rfl, hP0, hK, hZ⟩ := hv
  have hx := Bd.exec
  have hb := Bd.bytes
  have hr := Bd.returns
  have hts := atoms_spec (ws := wsX4_reason) Bd.pre
  have hown : s.vm.findClass RX4 = some m.cls := findClass_of_methodNamed Bd.named
  have hlocks := Bd.notSynchronized
  have hinX4 : ∀ w ∈ u_ws RX4 TX4 16, w ∈ wsX4_reason := by decide +kernel
  have hP := kl_S.rf hP0
  have hl := lv_entry ([.ref (B + 0)]) (n := 1) (Nat.le_of_ble_eq_true rfl)
  rw [lg_entry_eq]
  generalize (lg_sl ([.ref (B + 0)]) ++ List.replicate (1 - (lg_sl ([.ref (B + 0)])).length) Slot.unset).toArray = ls at hl ⊢
  have hl : lv_has ls 1 [(0, .ref (B + 0))] := hl
  refine lv_aload_n hx hb dX4_reason_0 rfl (lv_at hl 0 rfl) ?_
  refine kl_get (C := RX4) (T := TX4) (N := 16) (ci := 4) hx hb hts hinX4 hown hK hP k0 rfl 15 (by decide) (hts (.fieldLink RX4 71 "KinLedger" "latestReason" "I") (by decide +kernel)) (fun _ h9 => h9) rfl dX4_reason_1 ?_
  refine vx_ret ?_
  exact kl_iret hx hb hr hlocks hP ⟨rfl, rfl⟩ dX4_reason_4

abbrev rm_X4_has : Room := { frames := 7, cells := 1, slots := 6, locals := 110 }
set_option maxHeartbeats 4000000 in
set_option maxRecDepth 100000 in
theorem c_X4_has (l : Launch) (hst : l.stackTraces = false) (G : kl_G) (B : Nat) (w : kl_M) {nT nW nM : Nat} {rs : Int32} {nL nS nC : Nat} {T C : Nat → Int32} (t k : Int32) (k0 : w 0 = some (.inr (4, [.ref (B + 1), .int (nI nT), .ref (B + 2), .int (nI nL), .ref (B + 3), .int (nI nS), .ref (B + 4), .int (nI nC), .ref (B + 5), .int (nI nW), .ref (B + 6), .ref (B + 9), .ref (B + 12), .int (nI nM), .ref (B + 13), .int rs]))) (k6 : w 6 = some (.inr (2, [.ref (B + 7), .ref (B + 8)]))) (k7 : w 7 = some (kl_aI G 24 T)) (k8 : w 8 = some (kl_aI G 96 C)) (hn : nT ≤ 4) : vx_Met l yX4_has wsX4_has rm_X4_has (kl_Px G B w [.ref (B + 0), .int t, .int k]) (kl_Qi G B (fun r w1 => w = w1 ∧ mt_tab t nT ∧ kl_b r (mt_has T C t k))) (kl_X G B (fun E w1 => (E = "java/lang/IllegalArgumentException" ∧ w1 = w ∧ ¬ mt_tab t nT))) 1 6 (kl_fr B) := by
  refine vx_ofW (cc := cX4_has) (maxL := 3) (ret := (some .boolean)) (by decide) rfl ?_
  intro pg e s m args below meth cd s₁ Bd hml hout hv
  obtain ⟨rfl, hP0, hK, hZ⟩ := hv
  have hx := Bd.exec
  have hb := Bd.bytes
  have hr := Bd.returns
  have hts := atoms_spec (ws := wsX4_has) Bd.pre
  have hown : s.vm.findClass RX4 = some m.cls := findClass_of_methodNamed Bd.named
  have hlocks := Bd.notSynchronized
  have hinX4 : ∀ w ∈ u_ws RX4 TX4 16, w ∈ wsX4_has := by decide +kernel
  have hP := kl_S.rf hP0
  have hl := lv_entry ([.ref (B + 0), .int t, .int k]) (n := 3) (Nat.le_of_ble_eq_true rfl)
  rw [lg_entry_eq]
  generalize (lg_sl ([.ref (B + 0), .int t, .int k]) ++ List.replicate (3 - (lg_sl ([.ref (B + 0), .int t, .int k])).length) Slot.unset).toArray = ls at hl ⊢
  have hl : lv_has ls 3 [(0, .ref (B + 0)), (1, .int t), (2, .int k)] := hl
  refine lv_aload_n hx hb dX4_has_0 rfl (lv_at hl 0 rfl) ?_
  refine lv_iload_n hx hb dX4_has_1 rfl (lv_at hl 1 rfl) ?_
  refine kl_cVi (C := RX4) (i := 0) (As := [.int t]) (rest := []) ⟨hx, hb, hml, hown, hts⟩ (c_X4_isTable l G B _ t k0 (by omega)) (cwV 1 hts gX4_has_X4_isTable rfl rfl rfl (by decide +kernel) ⟨Nat.le_of_ble_eq_true rfl, Nat.le_of_ble_eq_true rfl⟩) hK hP k0 rfl rfl hl.1 rfl (Nat.le_of_ble_eq_true rfl) dX4_has_2 ⟨Nat.le_of_ble_eq_true rfl, Nat.le_of_ble_eq_true rfl⟩ (fun r3 w1 H locs q2 hP => ?_)
  obtain ⟨rfl, hv4⟩ := q2
  refine klx_cSv (As := [.int r3]) (rest := []) ⟨hx, hb, hml, hown, hts⟩ (c_X4_needArgument l hst G B _ r3 hv4) (va_cwS 1 hts gX4_has_X4_needArgument rfl rfl rfl (by decide +kernel) ⟨Nat.le_of_ble_eq_true rfl, Nat.le_of_ble_eq_true rfl⟩) hK hZ hP rfl hl.1 rfl (Nat.le_of_ble_eq_true rfl) dX4_has_5 ⟨Nat.le_of_ble_eq_true rfl, Nat.le_of_ble_eq_true rfl⟩ (fun E ce q9 w9 H locs hpx hP h9 hv9 hc9 => kl_out hout hlocks hP (⟨hpx.1, hpx.2.1.symm, hpx.2.2⟩) h9 hv9 hc9 (Nat.le_of_ble_eq_true rfl) (Nat.le_of_ble_eq_true rfl)) (fun w5 H locs q6 hP => ?_)
  obtain ⟨rfl, ok8⟩ := q6
  refine lv_aload_n hx hb dX4_has_8 rfl (lv_at hl 0 rfl) ?_
  refine kl_get (C := RX4) (T := TX4) (N := 16) (ci := 4) hx hb hts hinX4 hown hK hP k0 rfl 10 (by decide) (hts (.fieldLink RX4 53 "KinLedger" "rows" "LKinLedger$Rows;") (by decide +kernel)) (fun _ h9 => h9) rfl dX4_has_9 ?_
  refine lv_iload_n hx hb dX4_has_12 rfl (lv_at hl 1 rfl) ?_
  refine lv_iload_n hx hb dX4_has_13 rfl (lv_at hl 2 rfl) ?_
  refine kl_cVi (C := RX2) (i := 6) (As := [.int t, .int k]) (rest := []) ⟨hx, hb, hml, hown, hts⟩ (c_X2_find l G B _ 6 7 8 t k k6 k7 k8 ) (cwV 2 hts gX4_has_X2_find rfl rfl rfl (by decide +kernel) ⟨Nat.le_of_ble_eq_true rfl, Nat.le_of_ble_eq_true rfl⟩) hK hP k6 rfl rfl hl.1 rfl (Nat.le_of_ble_eq_true rfl) dX4_has_14 ⟨Nat.le_of_ble_eq_true rfl, Nat.le_of_ble_eq_true rfl⟩ (fun r11 w9 H locs q10 hP => ?_)
  obtain ⟨rfl, hv12⟩ := q10
  rcases hv12 with ⟨rfl, hv12⟩ | ⟨p13, hp13, rfl, hv12⟩
  · refine lv_iconst (v := (-1)) hx hb dX4_has_17 (by decide) ?_
    refine lv_icmp_eq (tgt := 25) hx hb dX4_has_18 (by decide) (fun c18 => ?_) (fun c18 => absurd rfl c18)
    refine lv_iconst (v := nI 0) hx hb dX4_has_25 (by decide) ?_
    refine W.widen (k := 1) (n := 6) (by omega) (by omega) ?_
    refine vx_ret ?_
    exact kl_zret hx hb hr hlocks (by decide) hP ⟨rfl, ok8, kl_b.f (mt_has_n hv12)⟩ dX4_has_26
  · refine lv_iconst (v := (-1)) hx hb dX4_has_17 (by decide) ?_
    refine lv_icmp_eq (tgt := 25) hx hb dX4_has_18 (by decide) (fun c18 => absurd c18 (kl_nm1 (by omega))) (fun c18 => ?_)
    refine lv_iconst (v := nI 1) hx hb dX4_has_21 (by decide) ?_
    refine lv_goto (tgt := 26) hx hb dX4_has_22 (by decide) ?_
    refine W.widen (k := 1) (n := 6) (by omega) (by omega) ?_
    refine vx_ret ?_
    exact kl_zret hx hb hr hlocks (by decide) hP ⟨rfl, ok8, kl_b.t ⟨p13, hp13, hv12⟩⟩ dX4_has_26

abbrev rm_X4_cell : Room := { frames := 7, cells := 2, slots := 12, locals := 110 }
set_option maxHeartbeats 4000000 in
set_option maxRecDepth 100000 in
theorem c_X4_cell (l : Launch) (hst : l.stackTraces = false) (G : kl_G) (B : Nat) (w : kl_M) {nT nW nM : Nat} {rs : Int32} {nL nS nC : Nat} {cn : Nat → Nat} {T C : Nat → Int32} (t k c : Int32) (k0 : w 0 = some (.inr (4, [.ref (B + 1), .int (nI nT), .ref (B + 2), .int (nI nL), .ref (B + 3), .int (nI nS), .ref (B + 4), .int (nI nC), .ref (B + 5), .int (nI nW), .ref (B + 6), .ref (B + 9), .ref (B + 12), .int (nI nM), .ref (B + 13), .int rs]))) (k1 : w 1 = some (kl_aI G 4 ((fun t => nI (cn t))))) (k6 : w 6 = some (.inr (2, [.ref (B + 7), .ref (B + 8)]))) (k7 : w 7 = some (kl_aI G 24 T)) (k8 : w 8 = some (kl_aI G 96 C)) (hn : nT ≤ 4) (hcn4 : ∀ j, j < nT → cn j ≤ 4) : vx_Met l yX4_cell wsX4_cell rm_X4_cell (kl_Px G B w [.ref (B + 0), .int t, .int k, .int c]) (kl_Qi G B (fun r w1 => w = w1 ∧ mt_col t c nT cn ∧ ∃ p q, p < 24 ∧ T p = t ∧ C (4 * p) = k ∧ q < 4 ∧ c = nI q ∧ r = C (4 * p + q))) (kl_X G B (fun E w1 => (E = "java/lang/IllegalArgumentException" ∧ w1 = w ∧ ¬ mt_col t c nT cn) ∨ (E = "java/util/NoSuchElementException" ∧ w1 = w ∧ mt_col t c nT cn ∧ ¬ mt_has T C t k))) 2 12 (kl_fr B) := by
  refine vx_ofW (cc := cX4_cell) (maxL := 5) (ret := (some .int)) (by decide) rfl ?_
  intro pg e s m args below meth cd s₁ Bd hml hout hv
  obtain ⟨rfl, hP0, hK, hZ⟩ := hv
  have hx := Bd.exec
  have hb := Bd.bytes
  have hr := Bd.returns
  have hts := atoms_spec (ws := wsX4_cell) Bd.pre
  have hown : s.vm.findClass RX4 = some m.cls := findClass_of_methodNamed Bd.named
  have hlocks := Bd.notSynchronized
  have hinX4 : ∀ w ∈ u_ws RX4 TX4 16, w ∈ wsX4_cell := by decide +kernel
  have hP := kl_S.rf hP0
  have hl := lv_entry ([.ref (B + 0), .int t, .int k, .int c]) (n := 5) (Nat.le_of_ble_eq_true rfl)
  rw [lg_entry_eq]
  generalize (lg_sl ([.ref (B + 0), .int t, .int k, .int c]) ++ List.replicate (5 - (lg_sl ([.ref (B + 0), .int t, .int k, .int c])).length) Slot.unset).toArray = ls at hl ⊢
  have hl : lv_has ls 5 [(0, .ref (B + 0)), (1, .int t), (2, .int k), (3, .int c)] := hl
  refine lv_aload_n hx hb dX4_cell_0 rfl (lv_at hl 0 rfl) ?_
  refine lv_iload_n hx hb dX4_cell_1 rfl (lv_at hl 1 rfl) ?_
  refine lv_iload_n hx hb dX4_cell_2 rfl (lv_at hl 3 rfl) ?_
  refine kl_cVi (C := RX4) (i := 0) (As := [.int t, .int c]) (rest := []) ⟨hx, hb, hml, hown, hts⟩ (c_X4_isColumn l G B _ t c k0 k1 (by omega) hcn4) (cwV 2 hts gX4_cell_X4_isColumn rfl rfl rfl (by decide +kernel) ⟨Nat.le_of_ble_eq_true rfl, Nat.le_of_ble_eq_true rfl⟩) hK hP k0 rfl rfl hl.1 rfl (Nat.le_of_ble_eq_true rfl) dX4_cell_3 ⟨Nat.le_of_ble_eq_true rfl, Nat.le_of_ble_eq_true rfl⟩ (fun r3 w1 H locs q2 hP => ?_)
  obtain ⟨rfl, hv4⟩ := q2
  refine klx_cSv (As := [.int r3]) (rest := []) ⟨hx, hb, hml, hown, hts⟩ (c_X4_needArgument l hst G B _ r3 hv4) (va_cwS 1 hts gX4_cell_X4_needArgument rfl rfl rfl (by decide +kernel) ⟨Nat.le_of_ble_eq_true rfl, Nat.le_of_ble_eq_true rfl⟩) hK hZ hP rfl hl.1 rfl (Nat.le_of_ble_eq_true rfl) dX4_cell_6 ⟨Nat.le_of_ble_eq_true rfl, Nat.le_of_ble_eq_true rfl⟩ (fun E ce q9 w9 H locs hpx hP h9 hv9 hc9 => kl_out hout hlocks hP (Or.inl ⟨hpx.1, hpx.2.1.symm, hpx.2.2⟩) h9 hv9 hc9 (Nat.le_of_ble_eq_true rfl) (Nat.le_of_ble_eq_true rfl)) (fun w5 H locs q6 hP => ?_)
  obtain ⟨rfl, ok8⟩ := q6
  refine lv_aload_n hx hb dX4_cell_9 rfl (lv_at hl 0 rfl) ?_
  refine kl_get (C := RX4) (T := TX4) (N := 16) (ci := 4) hx hb hts hinX4 hown hK hP k0 rfl 10 (by decide) (hts (.fieldLink RX4 53 "KinLedger" "rows" "LKinLedger$Rows;") (by decide +kernel)) (fun _ h9 => h9) rfl dX4_cell_10 ?_
  refine lv_iload_n hx hb dX4_cell_13 rfl (lv_at hl 1 rfl) ?_
  refine lv_iload_n hx hb dX4_cell_14 rfl (lv_at hl 2 rfl) ?_
  refine kl_cVi (C := RX2) (i := 6) (As := [.int t, .int k]) (rest := []) ⟨hx, hb, hml, hown, hts⟩ (c_X2_find l G B _ 6 7 8 t k k6 k7 k8 ) (cwV 2 hts gX4_cell_X2_find rfl rfl rfl (by decide +kernel) ⟨Nat.le_of_ble_eq_true rfl, Nat.le_of_ble_eq_true rfl⟩) hK hP k6 rfl rfl hl.1 rfl (Nat.le_of_ble_eq_true rfl) dX4_cell_15 ⟨Nat.le_of_ble_eq_true rfl, Nat.le_of_ble_eq_true rfl⟩ (fun r11 w9 H locs q10 hP => ?_)
  obtain ⟨rfl, hv12⟩ := q10
  rcases hv12 with ⟨rfl, hv12⟩ | ⟨p13, hp13, rfl, hv12⟩
  · refine lv_istore (lv' := [(4, .int ((-1))), (0, .ref (B + 0)), (1, .int t), (2, .int k), (3, .int c)]) hx hb dX4_cell_18 hl (by decide) rfl (fun ls hl => ?_)
    refine lv_iload hx hb dX4_cell_20 (lv_at hl 0 rfl) ?_
    refine lv_iconst (v := (-1)) hx hb dX4_cell_22 (by decide) ?_
    refine lv_icmp_eq (tgt := 30) hx hb dX4_cell_23 (by decide) (fun c23 => ?_) (fun c23 => absurd rfl c23)
    refine lv_iconst (v := nI 0) hx hb dX4_cell_30 (by decide) ?_
    refine klx_cSv (As := [.int (nI 0)]) (rest := []) ⟨hx, hb, hml, hown, hts⟩ (c_X4_needElement l hst G B _ (nI 0) (kl_b.f (P := False) not_false)) (va_cwS 1 hts gX4_cell_X4_needElement rfl rfl rfl (by decide +kernel) ⟨Nat.le_of_ble_eq_true rfl, Nat.le_of_ble_eq_true rfl⟩) hK hZ hP rfl hl.1 rfl (Nat.le_of_ble_eq_true rfl) dX4_cell_31 ⟨Nat.le_of_ble_eq_true rfl, Nat.le_of_ble_eq_true rfl⟩ (fun E ce q9 w9 H locs hpx hP h9 hv9 hc9 => kl_out hout hlocks hP (Or.inr ⟨hpx.1, hpx.2.1.symm, ok8, mt_has_n hv12⟩) h9 hv9 hc9 (Nat.le_of_ble_eq_true rfl) (Nat.le_of_ble_eq_true rfl)) (fun w14 H locs q15 hP => ?_)
    exact (q15.2).elim
  · refine lv_istore (lv' := [(4, .int (nI p13)), (0, .ref (B + 0)), (1, .int t), (2, .int k), (3, .int c)]) hx hb dX4_cell_18 hl (by decide) rfl (fun ls hl => ?_)
    refine lv_iload hx hb dX4_cell_20 (lv_at hl 0 rfl) ?_
    refine lv_iconst (v := (-1)) hx hb dX4_cell_22 (by decide) ?_
    refine lv_icmp_eq (tgt := 30) hx hb dX4_cell_23 (by decide) (fun c23 => absurd c23 (kl_nm1 (by omega))) (fun c23 => ?_)
    refine lv_iconst (v := nI 1) hx hb dX4_cell_26 (by decide) ?_
    refine lv_goto (tgt := 31) hx hb dX4_cell_27 (by decide) ?_
    refine klx_cSv (As := [.int (nI 1)]) (rest := []) ⟨hx, hb, hml, hown, hts⟩ (c_X4_needElement l hst G B _ (nI 1) (kl_b.t (P := True) trivial)) (va_cwS 1 hts gX4_cell_X4_needElement rfl rfl rfl (by decide +kernel) ⟨Nat.le_of_ble_eq_true rfl, Nat.le_of_ble_eq_true rfl⟩) hK hZ hP rfl hl.1 rfl (Nat.le_of_ble_eq_true rfl) dX4_cell_31 ⟨Nat.le_of_ble_eq_true rfl, Nat.le_of_ble_eq_true rfl⟩ (fun _ _ _ _ _ _ hpx _ _ _ _ => (hpx.2.2 trivial).elim) (fun w17 H locs q18 hP => ?_)
    obtain ⟨rfl, ok20⟩ := q18
    have hcol := ok8
    obtain ⟨jj, q, hjj, -, hq4, rfl⟩ := ok8
    have hq5 := hcn4 jj hjj
    refine lv_aload_n hx hb dX4_cell_34 rfl (lv_at hl 1 rfl) ?_
    refine kl_get (C := RX4) (T := TX4) (N := 16) (ci := 4) hx hb hts hinX4 hown hK hP k0 rfl 10 (by decide) (hts (.fieldLink RX4 53 "KinLedger" "rows" "LKinLedger$Rows;") (by decide +kernel)) (fun _ h9 => h9) rfl dX4_cell_35 ?_
    refine lv_iload hx hb dX4_cell_38 (lv_at hl 0 rfl) ?_
    refine lv_iload_n hx hb dX4_cell_40 rfl (lv_at hl 4 rfl) ?_
    refine kl_cVi (C := RX2) (i := 6) (As := [.int (nI p13), .int (nI q)]) (rest := []) ⟨hx, hb, hml, hown, hts⟩ (c_X2_at l G B _ 6 7 8 p13 q k6 k7 k8 (by omega) (by omega)) (cwV 2 hts gX4_cell_X2_at rfl rfl rfl (by decide +kernel) ⟨Nat.le_of_ble_eq_true rfl, Nat.le_of_ble_eq_true rfl⟩) hK hP k6 rfl rfl hl.1 rfl (Nat.le_of_ble_eq_true rfl) dX4_cell_41 ⟨Nat.le_of_ble_eq_true rfl, Nat.le_of_ble_eq_true rfl⟩ (fun r23 w21 H locs q22 hP => ?_)
    obtain ⟨rfl, rfl⟩ := q22
    refine kl_top (z := C (4 * p13 + q)) rfl ?_
    refine W.widen (k := 2) (n := 12) (by omega) (by omega) ?_
    refine vx_ret ?_
    exact kl_iret hx hb hr hlocks hP ⟨rfl, hcol, p13, q, hp13, hv12.1, hv12.2, by omega, rfl, rfl⟩ dX4_cell_44

abbrev rm_X4_key : Room := { frames := 7, cells := 2, slots := 12, locals := 110 }
set_option maxHeartbeats 4000000 in
set_option maxRecDepth 100000 in
theorem c_X4_key (l : Launch) (hst : l.stackTraces = false) (G : kl_G) (B : Nat) (w : kl_M) {nT nW nM : Nat} {rs : Int32} {nL nS nC : Nat} {T C : Nat → Int32} (t k : Int32) (k0 : w 0 = some (.inr (4, [.ref (B + 1), .int (nI nT), .ref (B + 2), .int (nI nL), .ref (B + 3), .int (nI nS), .ref (B + 4), .int (nI nC), .ref (B + 5), .int (nI nW), .ref (B + 6), .ref (B + 9), .ref (B + 12), .int (nI nM), .ref (B + 13), .int rs]))) (k6 : w 6 = some (.inr (2, [.ref (B + 7), .ref (B + 8)]))) (k7 : w 7 = some (kl_aI G 24 T)) (k8 : w 8 = some (kl_aI G 96 C)) (hn : nT ≤ 4) : vx_Met l yX4_key wsX4_key rm_X4_key (kl_Px G B w [.ref (B + 0), .int t, .int k]) (kl_Qi G B (fun r w1 => w = w1 ∧ mt_tab t nT ∧ ∃ p, p < 24 ∧ T p = t ∧ nI (mt_less T C t (C (4 * p))) = k ∧ r = C (4 * p))) (kl_X G B (fun E w1 => (E = "java/lang/IllegalArgumentException" ∧ w1 = w ∧ ¬ mt_tab t nT) ∨ (E = "java/lang/IndexOutOfBoundsException" ∧ w1 = w ∧ mt_tab t nT ∧ ∀ p, p < 24 → ¬ (T p = t ∧ nI (mt_less T C t (C (4 * p))) = k)))) 2 12 (kl_fr B) := by
  refine vx_ofW (cc := cX4_key) (maxL := 4) (ret := (some .int)) (by decide) rfl ?_
  intro pg e s m args below meth cd s₁ Bd hml hout hv
  obtain ⟨rfl, hP0, hK, hZ⟩ := hv
  have hx := Bd.exec
  have hb := Bd.bytes
  have hr := Bd.returns
  have hts := atoms_spec (ws := wsX4_key) Bd.pre
  have hown : s.vm.findClass RX4 = some m.cls := findClass_of_methodNamed Bd.named
  have hlocks := Bd.notSynchronized
  have hinX4 : ∀ w ∈ u_ws RX4 TX4 16, w ∈ wsX4_key := by decide +kernel
  have hP := kl_S.rf hP0
  have hl := lv_entry ([.ref (B + 0), .int t, .int k]) (n := 4) (Nat.le_of_ble_eq_true rfl)
  rw [lg_entry_eq]
  generalize (lg_sl ([.ref (B + 0), .int t, .int k]) ++ List.replicate (4 - (lg_sl ([.ref (B + 0), .int t, .int k])).length) Slot.unset).toArray = ls at hl ⊢
  have hl : lv_has ls 4 [(0, .ref (B + 0)), (1, .int t), (2, .int k)] := hl
  refine lv_aload_n hx hb dX4_key_0 rfl (lv_at hl 0 rfl) ?_
  refine lv_iload_n hx hb dX4_key_1 rfl (lv_at hl 1 rfl) ?_
  refine kl_cVi (C := RX4) (i := 0) (As := [.int t]) (rest := []) ⟨hx, hb, hml, hown, hts⟩ (c_X4_isTable l G B _ t k0 (by omega)) (cwV 1 hts gX4_key_X4_isTable rfl rfl rfl (by decide +kernel) ⟨Nat.le_of_ble_eq_true rfl, Nat.le_of_ble_eq_true rfl⟩) hK hP k0 rfl rfl hl.1 rfl (Nat.le_of_ble_eq_true rfl) dX4_key_2 ⟨Nat.le_of_ble_eq_true rfl, Nat.le_of_ble_eq_true rfl⟩ (fun r3 w1 H locs q2 hP => ?_)
  obtain ⟨rfl, hv4⟩ := q2
  refine klx_cSv (As := [.int r3]) (rest := []) ⟨hx, hb, hml, hown, hts⟩ (c_X4_needArgument l hst G B _ r3 hv4) (va_cwS 1 hts gX4_key_X4_needArgument rfl rfl rfl (by decide +kernel) ⟨Nat.le_of_ble_eq_true rfl, Nat.le_of_ble_eq_true rfl⟩) hK hZ hP rfl hl.1 rfl (Nat.le_of_ble_eq_true rfl) dX4_key_5 ⟨Nat.le_of_ble_eq_true rfl, Nat.le_of_ble_eq_true rfl⟩ (fun E ce q9 w9 H locs hpx hP h9 hv9 hc9 => kl_out hout hlocks hP (Or.inl ⟨hpx.1, hpx.2.1.symm, hpx.2.2⟩) h9 hv9 hc9 (Nat.le_of_ble_eq_true rfl) (Nat.le_of_ble_eq_true rfl)) (fun w5 H locs q6 hP => ?_)
  obtain ⟨rfl, ok8⟩ := q6
  refine lv_aload_n hx hb dX4_key_8 rfl (lv_at hl 0 rfl) ?_
  refine kl_get (C := RX4) (T := TX4) (N := 16) (ci := 4) hx hb hts hinX4 hown hK hP k0 rfl 10 (by decide) (hts (.fieldLink RX4 53 "KinLedger" "rows" "LKinLedger$Rows;") (by decide +kernel)) (fun _ h9 => h9) rfl dX4_key_9 ?_
  refine lv_iload_n hx hb dX4_key_12 rfl (lv_at hl 1 rfl) ?_
  refine lv_iload_n hx hb dX4_key_13 rfl (lv_at hl 2 rfl) ?_
  refine kl_cVi (C := RX2) (i := 6) (As := [.int t, .int k]) (rest := []) ⟨hx, hb, hml, hown, hts⟩ (c_X2_placeOfRank l G B _ 6 7 8 t k k6 k7 k8 ) (cwV 2 hts gX4_key_X2_placeOfRank rfl rfl rfl (by decide +kernel) ⟨Nat.le_of_ble_eq_true rfl, Nat.le_of_ble_eq_true rfl⟩) hK hP k6 rfl rfl hl.1 rfl (Nat.le_of_ble_eq_true rfl) dX4_key_14 ⟨Nat.le_of_ble_eq_true rfl, Nat.le_of_ble_eq_true rfl⟩ (fun r11 w9 H locs q10 hP => ?_)
  obtain ⟨rfl, hv12⟩ := q10
  rcases hv12 with ⟨rfl, hv12⟩ | ⟨p13, hp13, rfl, hv12⟩
  · refine lv_istore_n (lv' := [(3, .int ((-1))), (0, .ref (B + 0)), (1, .int t), (2, .int k)]) hx hb dX4_key_17 rfl hl (by decide) rfl (fun ls hl => ?_)
    refine lv_iload_n hx hb dX4_key_18 rfl (lv_at hl 0 rfl) ?_
    refine lv_iconst (v := (-1)) hx hb dX4_key_19 (by decide) ?_
    refine lv_icmp_ne (tgt := 31) hx hb dX4_key_20 (by decide) (fun c20 => absurd rfl c20) (fun c20 => ?_)
    exact kl_throw hx hb hst hts hown ⟨by decide +kernel, by decide +kernel⟩ (ik := 180) (ic := 182) (cls := "java/lang/IndexOutOfBoundsException") (names := ["java/lang/RuntimeException", "java/lang/Exception"]) (by decide +kernel) (by decide +kernel) (by decide +kernel) (by decide) hK hZ hP (hl.1.trans hml.symm) dX4_key_23 dX4_key_26 dX4_key_27 dX4_key_30 hout (Nat.le_of_ble_eq_true rfl) (Nat.le_of_ble_eq_true rfl) (Nat.le_of_ble_eq_true rfl) (Nat.le_of_ble_eq_true rfl) hlocks (Or.inr ⟨rfl, rfl, ok8, hv12⟩) (Nat.le_of_ble_eq_true rfl) (Nat.le_of_ble_eq_true rfl)
  · refine lv_istore_n (lv' := [(3, .int (nI p13)), (0, .ref (B + 0)), (1, .int t), (2, .int k)]) hx hb dX4_key_17 rfl hl (by decide) rfl (fun ls hl => ?_)
    refine lv_iload_n hx hb dX4_key_18 rfl (lv_at hl 0 rfl) ?_
    refine lv_iconst (v := (-1)) hx hb dX4_key_19 (by decide) ?_
    refine lv_icmp_ne (tgt := 31) hx hb dX4_key_20 (by decide) (fun c20 => ?_) (fun c20 => absurd c20 (kl_nm1 (by omega)))
    refine lv_aload_n hx hb dX4_key_31 rfl (lv_at hl 1 rfl) ?_
    refine kl_get (C := RX4) (T := TX4) (N := 16) (ci := 4) hx hb hts hinX4 hown hK hP k0 rfl 10 (by decide) (hts (.fieldLink RX4 53 "KinLedger" "rows" "LKinLedger$Rows;") (by decide +kernel)) (fun _ h9 => h9) rfl dX4_key_32 ?_
    refine lv_iload_n hx hb dX4_key_35 rfl (lv_at hl 0 rfl) ?_
    refine lv_iconst (v := nI 0) hx hb dX4_key_36 (by decide) ?_
    refine kl_cVi (C := RX2) (i := 6) (As := [.int (nI p13), .int (nI 0)]) (rest := []) ⟨hx, hb, hml, hown, hts⟩ (c_X2_at l G B _ 6 7 8 p13 0 k6 k7 k8 (by omega) (by omega)) (cwV 2 hts gX4_key_X2_at rfl rfl rfl (by decide +kernel) ⟨Nat.le_of_ble_eq_true rfl, Nat.le_of_ble_eq_true rfl⟩) hK hP k6 rfl rfl hl.1 rfl (Nat.le_of_ble_eq_true rfl) dX4_key_37 ⟨Nat.le_of_ble_eq_true rfl, Nat.le_of_ble_eq_true rfl⟩ (fun r16 w14 H locs q15 hP => ?_)
    obtain ⟨rfl, rfl⟩ := q15
    refine kl_top (z := C (4 * p13)) rfl ?_
    refine W.widen (k := 2) (n := 12) (by omega) (by omega) ?_
    refine vx_ret ?_
    exact kl_iret hx hb hr hlocks hP ⟨rfl, ok8, p13, hp13, hv12.1, hv12.2, rfl⟩ dX4_key_40

abbrev rm_X4_count : Room := { frames := 7, cells := 1, slots := 6, locals := 110 }
set_option maxHeartbeats 4000000 in
set_option maxRecDepth 100000 in
theorem c_X4_count (l : Launch) (hst : l.stackTraces = false) (G : kl_G) (B : Nat) (w : kl_M) {nT nW nM : Nat} {rs : Int32} {nL nS nC : Nat} {T C : Nat → Int32} (t : Int32) (k0 : w 0 = some (.inr (4, [.ref (B + 1), .int (nI nT), .ref (B + 2), .int (nI nL), .ref (B + 3), .int (nI nS), .ref (B + 4), .int (nI nC), .ref (B + 5), .int (nI nW), .ref (B + 6), .ref (B + 9), .ref (B + 12), .int (nI nM), .ref (B + 13), .int rs]))) (k6 : w 6 = some (.inr (2, [.ref (B + 7), .ref (B + 8)]))) (k7 : w 7 = some (kl_aI G 24 T)) (k8 : w 8 = some (kl_aI G 96 C)) (hn : nT ≤ 4) : vx_Met l yX4_count wsX4_count rm_X4_count (kl_Px G B w [.ref (B + 0), .int t]) (kl_Qi G B (fun r w1 => w = w1 ∧ mt_tab t nT ∧ r = nI (mt_ct (fun q => T q = t) 24))) (kl_X G B (fun E w1 => (E = "java/lang/IllegalArgumentException" ∧ w1 = w ∧ ¬ mt_tab t nT))) 1 6 (kl_fr B) := by
  refine vx_ofW (cc := cX4_count) (maxL := 2) (ret := (some .int)) (by decide) rfl ?_
  intro pg e s m args below meth cd s₁ Bd hml hout hv
  obtain ⟨rfl, hP0, hK, hZ⟩ := hv
  have hx := Bd.exec
  have hb := Bd.bytes
  have hr := Bd.returns
  have hts := atoms_spec (ws := wsX4_count) Bd.pre
  have hown : s.vm.findClass RX4 = some m.cls := findClass_of_methodNamed Bd.named
  have hlocks := Bd.notSynchronized
  have hinX4 : ∀ w ∈ u_ws RX4 TX4 16, w ∈ wsX4_count := by decide +kernel
  have hP := kl_S.rf hP0
  have hl := lv_entry ([.ref (B + 0), .int t]) (n := 2) (Nat.le_of_ble_eq_true rfl)
  rw [lg_entry_eq]
  generalize (lg_sl ([.ref (B + 0), .int t]) ++ List.replicate (2 - (lg_sl ([.ref (B + 0), .int t])).length) Slot.unset).toArray = ls at hl ⊢
  have hl : lv_has ls 2 [(0, .ref (B + 0)), (1, .int t)] := hl
  refine lv_aload_n hx hb dX4_count_0 rfl (lv_at hl 0 rfl) ?_
  refine lv_iload_n hx hb dX4_count_1 rfl (lv_at hl 1 rfl) ?_
  refine kl_cVi (C := RX4) (i := 0) (As := [.int t]) (rest := []) ⟨hx, hb, hml, hown, hts⟩ (c_X4_isTable l G B _ t k0 (by omega)) (cwV 1 hts gX4_count_X4_isTable rfl rfl rfl (by decide +kernel) ⟨Nat.le_of_ble_eq_true rfl, Nat.le_of_ble_eq_true rfl⟩) hK hP k0 rfl rfl hl.1 rfl (Nat.le_of_ble_eq_true rfl) dX4_count_2 ⟨Nat.le_of_ble_eq_true rfl, Nat.le_of_ble_eq_true rfl⟩ (fun r3 w1 H locs q2 hP => ?_)
  obtain ⟨rfl, hv4⟩ := q2
  refine klx_cSv (As := [.int r3]) (rest := []) ⟨hx, hb, hml, hown, hts⟩ (c_X4_needArgument l hst G B _ r3 hv4) (va_cwS 1 hts gX4_count_X4_needArgument rfl rfl rfl (by decide +kernel) ⟨Nat.le_of_ble_eq_true rfl, Nat.le_of_ble_eq_true rfl⟩) hK hZ hP rfl hl.1 rfl (Nat.le_of_ble_eq_true rfl) dX4_count_5 ⟨Nat.le_of_ble_eq_true rfl, Nat.le_of_ble_eq_true rfl⟩ (fun E ce q9 w9 H locs hpx hP h9 hv9 hc9 => kl_out hout hlocks hP (⟨hpx.1, hpx.2.1.symm, hpx.2.2⟩) h9 hv9 hc9 (Nat.le_of_ble_eq_true rfl) (Nat.le_of_ble_eq_true rfl)) (fun w5 H locs q6 hP => ?_)
  obtain ⟨rfl, ok8⟩ := q6
  refine lv_aload_n hx hb dX4_count_8 rfl (lv_at hl 0 rfl) ?_
  refine kl_get (C := RX4) (T := TX4) (N := 16) (ci := 4) hx hb hts hinX4 hown hK hP k0 rfl 10 (by decide) (hts (.fieldLink RX4 53 "KinLedger" "rows" "LKinLedger$Rows;") (by decide +kernel)) (fun _ h9 => h9) rfl dX4_count_9 ?_
  refine lv_iload_n hx hb dX4_count_12 rfl (lv_at hl 1 rfl) ?_
  refine kl_cVi (C := RX2) (i := 6) (As := [.int t]) (rest := []) ⟨hx, hb, hml, hown, hts⟩ (c_X2_size l G B _ 6 7 8 t k6 k7 k8 ) (cwV 1 hts gX4_count_X2_size rfl rfl rfl (by decide +kernel) ⟨Nat.le_of_ble_eq_true rfl, Nat.le_of_ble_eq_true rfl⟩) hK hP k6 rfl rfl hl.1 rfl (Nat.le_of_ble_eq_true rfl) dX4_count_13 ⟨Nat.le_of_ble_eq_true rfl, Nat.le_of_ble_eq_true rfl⟩ (fun r11 w9 H locs q10 hP => ?_)
  obtain ⟨rfl, rfl⟩ := q10
  refine W.widen (k := 1) (n := 6) (by omega) (by omega) ?_
  refine vx_ret ?_
  exact kl_iret hx hb hr hlocks hP ⟨rfl, ok8, rfl⟩ dX4_count_16

abbrev rm_X4_referring : Room := { frames := 7, cells := 2, slots := 12, locals := 110 }
set_option maxHeartbeats 4000000 in
set_option maxRecDepth 100000 in
theorem c_X4_referring (l : Launch) (hst : l.stackTraces = false) (G : kl_G) (B : Nat) (w : kl_M) {nT nW nM : Nat} {rs : Int32} {nL nS nC : Nat} {lf sf cf : Nat → Option Nat} {la : Nat → Nat} {lch : Nat → Int32} {lco : Nat → Nat} {lpa lwy : Nat → Int32} {sa : Nat → Nat} {stb : Nat → Int32} {sco ca cwa cpa : Nat → Nat} {ctb : Nat → Int32} {cln : Nat → Nat} {cwd : Nat → Nat → Nat} {ccol : Nat → Nat} {T C : Nat → Int32} (l9 x : Int32) (k0 : w 0 = some (.inr (4, [.ref (B + 1), .int (nI nT), .ref (B + 2), .int (nI nL), .ref (B + 3), .int (nI nS), .ref (B + 4), .int (nI nC), .ref (B + 5), .int (nI nW), .ref (B + 6), .ref (B + 9), .ref (B + 12), .int (nI nM), .ref (B + 13), .int rs]))) (k2 : w 2 = some (kl_aR G 3 6 lf)) (k6 : w 6 = some (.inr (2, [.ref (B + 7), .ref (B + 8)]))) (k7 : w 7 = some (kl_aI G 24 T)) (k8 : w 8 = some (kl_aI G 96 C)) (hru : kl_RU G B w nL lf la lch lco lpa lwy nS sf sa stb sco nC cf ca cwa cpa ctb cln cwd ccol) (hn : nL ≤ 6) (hu : mt_uniq T C) (hpar : ∀ l, l < nL → lpa l ≠ -1) : vx_Met l yX4_referring wsX4_referring rm_X4_referring (kl_Px G B w [.ref (B + 0), .int l9, .int x]) (kl_Qi G B (fun r w1 => w = w1 ∧ ∃ j t0, j < nL ∧ l9 = nI j ∧ t0 < 24 ∧ T t0 = lpa j ∧ C (4 * t0) = x ∧ r = nI (mt_ct (fun p => mt_ref T C (lch j) (lco j) (lpa j) p t0) 24))) (kl_X G B (fun E w1 => (E = "java/lang/IllegalArgumentException" ∧ w1 = w ∧ ¬ mt_tab l9 nL) ∨ (E = "java/util/NoSuchElementException" ∧ w1 = w ∧ ∃ j, j < nL ∧ l9 = nI j ∧ ¬ mt_has T C (lpa j) x))) 2 12 (kl_fr B) := by
  refine vx_ofW (cc := cX4_referring) (maxL := 6) (ret := (some .int)) (by decide) rfl ?_
  intro pg e s m args below meth cd s₁ Bd hml hout hv
  obtain ⟨rfl, hP0, hK, hZ⟩ := hv
  have hx := Bd.exec
  have hb := Bd.bytes
  have hr := Bd.returns
  have hts := atoms_spec (ws := wsX4_referring) Bd.pre
  have hown : s.vm.findClass RX4 = some m.cls := findClass_of_methodNamed Bd.named
  have hlocks := Bd.notSynchronized
  have hinX1 : ∀ w ∈ u_ws RX1 TX1 4, w ∈ wsX4_referring := by decide +kernel
  have hinX4 : ∀ w ∈ u_ws RX4 TX4 16, w ∈ wsX4_referring := by decide +kernel
  have hP := kl_S.rf hP0
  have hl := lv_entry ([.ref (B + 0), .int l9, .int x]) (n := 6) (Nat.le_of_ble_eq_true rfl)
  rw [lg_entry_eq]
  generalize (lg_sl ([.ref (B + 0), .int l9, .int x]) ++ List.replicate (6 - (lg_sl ([.ref (B + 0), .int l9, .int x])).length) Slot.unset).toArray = ls at hl ⊢
  have hl : lv_has ls 6 [(0, .ref (B + 0)), (1, .int l9), (2, .int x)] := hl
  refine lv_iload_n hx hb dX4_referring_0 rfl (lv_at hl 1 rfl) ?_
  refine lv_if_lt (tgt := 16) hx hb dX4_referring_1 (by decide) (fun c1 => ?_) (fun c1 => ?_)
  · refine lv_iconst (v := nI 0) hx hb dX4_referring_16 (by decide) ?_
    refine klx_cSv (As := [.int (nI 0)]) (rest := []) ⟨hx, hb, hml, hown, hts⟩ (c_X4_needArgument l hst G B _ (nI 0) (kl_b.f (P := False) not_false)) (va_cwS 1 hts gX4_referring_X4_needArgument rfl rfl rfl (by decide +kernel) ⟨Nat.le_of_ble_eq_true rfl, Nat.le_of_ble_eq_true rfl⟩) hK hZ hP rfl hl.1 rfl (Nat.le_of_ble_eq_true rfl) dX4_referring_17 ⟨Nat.le_of_ble_eq_true rfl, Nat.le_of_ble_eq_true rfl⟩ (fun E ce q9 w9 H locs hpx hP h9 hv9 hc9 => kl_out hout hlocks hP (Or.inl ⟨hpx.1, hpx.2.1.symm, mt_tab_n0 (by omega) c1⟩) h9 hv9 hc9 (Nat.le_of_ble_eq_true rfl) (Nat.le_of_ble_eq_true rfl)) (fun w1 H locs q2 hP => ?_)
    exact (q2.2).elim
  · refine lv_iload_n hx hb dX4_referring_4 rfl (lv_at hl 1 rfl) ?_
    refine lv_aload_n hx hb dX4_referring_5 rfl (lv_at hl 0 rfl) ?_
    refine kl_get (C := RX4) (T := TX4) (N := 16) (ci := 4) hx hb hts hinX4 hown hK hP k0 rfl 3 (by decide) (hts (.fieldLink RX4 23 "KinLedger" "linkCount" "I") (by decide +kernel)) (fun _ h9 => h9) rfl dX4_referring_6 ?_
    refine lv_icmp_ge (tgt := 16) hx hb dX4_referring_9 (by decide) (fun c9 => ?_) (fun c9 => ?_)
    · refine lv_iconst (v := nI 0) hx hb dX4_referring_16 (by decide) ?_
      refine klx_cSv (As := [.int (nI 0)]) (rest := []) ⟨hx, hb, hml, hown, hts⟩ (c_X4_needArgument l hst G B _ (nI 0) (kl_b.f (P := False) not_false)) (va_cwS 1 hts gX4_referring_X4_needArgument rfl rfl rfl (by decide +kernel) ⟨Nat.le_of_ble_eq_true rfl, Nat.le_of_ble_eq_true rfl⟩) hK hZ hP rfl hl.1 rfl (Nat.le_of_ble_eq_true rfl) dX4_referring_17 ⟨Nat.le_of_ble_eq_true rfl, Nat.le_of_ble_eq_true rfl⟩ (fun E ce q9 w9 H locs hpx hP h9 hv9 hc9 => kl_out hout hlocks hP (Or.inl ⟨hpx.1, hpx.2.1.symm, mt_tab_n1 (by omega) c9⟩) h9 hv9 hc9 (Nat.le_of_ble_eq_true rfl) (Nat.le_of_ble_eq_true rfl)) (fun w4 H locs q5 hP => ?_)
      exact (q5.2).elim
    · refine lv_iconst (v := nI 1) hx hb dX4_referring_12 (by decide) ?_
      refine lv_goto (tgt := 17) hx hb dX4_referring_13 (by decide) ?_
      refine klx_cSv (As := [.int (nI 1)]) (rest := []) ⟨hx, hb, hml, hown, hts⟩ (c_X4_needArgument l hst G B _ (nI 1) (kl_b.t (P := True) trivial)) (va_cwS 1 hts gX4_referring_X4_needArgument rfl rfl rfl (by decide +kernel) ⟨Nat.le_of_ble_eq_true rfl, Nat.le_of_ble_eq_true rfl⟩) hK hZ hP rfl hl.1 rfl (Nat.le_of_ble_eq_true rfl) dX4_referring_17 ⟨Nat.le_of_ble_eq_true rfl, Nat.le_of_ble_eq_true rfl⟩ (fun _ _ _ _ _ _ hpx _ _ _ _ => (hpx.2.2 trivial).elim) (fun w7 H locs q8 hP => ?_)
      obtain ⟨rfl, ok10⟩ := q8
      obtain ⟨j, hj, hlj⟩ := mt_tab_y (t := l9) (n := nL) (by omega) c1 c9
      rw [hlj] at hl
      refine lv_aload_n hx hb dX4_referring_20 rfl (lv_at hl 0 rfl) ?_
      refine kl_get (C := RX4) (T := TX4) (N := 16) (ci := 4) hx hb hts hinX4 hown hK hP k0 rfl 10 (by decide) (hts (.fieldLink RX4 53 "KinLedger" "rows" "LKinLedger$Rows;") (by decide +kernel)) (fun _ h9 => h9) rfl dX4_referring_21 ?_
      refine lv_aload_n hx hb dX4_referring_24 rfl (lv_at hl 0 rfl) ?_
      refine kl_get (C := RX4) (T := TX4) (N := 16) (ci := 4) hx hb hts hinX4 hown hK hP k0 rfl 2 (by decide) (hts (.fieldLink RX4 19 "KinLedger" "links" "[LKinLedger$Link;") (by decide +kernel)) (fun _ h9 => h9) rfl dX4_referring_25 ?_
      refine lv_iload_n hx hb dX4_referring_28 rfl (lv_at hl 1 rfl) ?_
      obtain ⟨el11a, el11b, ⟨el11c, el11d⟩, el11e⟩ := hru.1 j (by omega)
      refine kl_aald hx hb hK hP 3 (k0 := 3) k2 rfl (by omega) (by omega) el11a dX4_referring_29 ?_
      refine kl_get (C := RX1) (T := TX1) (N := 4) (ci := 1) hx hb hts hinX1 hown hK hP el11e rfl 2 (by decide) (hts (.fieldLink RX4 183 "KinLedger$Link" "parent" "I") (by decide +kernel)) (fun _ h9 => h9) rfl dX4_referring_30 ?_
      refine lv_iload_n hx hb dX4_referring_33 rfl (lv_at hl 2 rfl) ?_
      refine kl_cVi (C := RX2) (i := 6) (As := [.int (lpa j), .int x]) (rest := []) ⟨hx, hb, hml, hown, hts⟩ (c_X2_find l G B _ 6 7 8 (lpa j) x k6 k7 k8 ) (cwV 2 hts gX4_referring_X2_find rfl rfl rfl (by decide +kernel) ⟨Nat.le_of_ble_eq_true rfl, Nat.le_of_ble_eq_true rfl⟩) hK hP k6 rfl rfl hl.1 rfl (Nat.le_of_ble_eq_true rfl) dX4_referring_34 ⟨Nat.le_of_ble_eq_true rfl, Nat.le_of_ble_eq_true rfl⟩ (fun r14 w12 H locs q13 hP => ?_)
      obtain ⟨rfl, hv15⟩ := q13
      rcases hv15 with ⟨rfl, hv15⟩ | ⟨p16, hp16, rfl, hv15⟩
      · refine lv_istore_n (lv' := [(3, .int ((-1))), (0, .ref (B + 0)), (1, .int (nI j)), (2, .int x)]) hx hb dX4_referring_37 rfl hl (by decide) rfl (fun ls hl => ?_)
        refine lv_iload_n hx hb dX4_referring_38 rfl (lv_at hl 0 rfl) ?_
        refine lv_iconst (v := (-1)) hx hb dX4_referring_39 (by decide) ?_
        refine lv_icmp_eq (tgt := 47) hx hb dX4_referring_40 (by decide) (fun c40 => ?_) (fun c40 => absurd rfl c40)
        refine lv_iconst (v := nI 0) hx hb dX4_referring_47 (by decide) ?_
        refine klx_cSv (As := [.int (nI 0)]) (rest := []) ⟨hx, hb, hml, hown, hts⟩ (c_X4_needElement l hst G B _ (nI 0) (kl_b.f (P := False) not_false)) (va_cwS 1 hts gX4_referring_X4_needElement rfl rfl rfl (by decide +kernel) ⟨Nat.le_of_ble_eq_true rfl, Nat.le_of_ble_eq_true rfl⟩) hK hZ hP rfl hl.1 rfl (Nat.le_of_ble_eq_true rfl) dX4_referring_48 ⟨Nat.le_of_ble_eq_true rfl, Nat.le_of_ble_eq_true rfl⟩ (fun E ce q9 w9 H locs hpx hP h9 hv9 hc9 => kl_out hout hlocks hP (Or.inr ⟨hpx.1, hpx.2.1.symm, j, hj, hlj, mt_has_n hv15⟩) h9 hv9 hc9 (Nat.le_of_ble_eq_true rfl) (Nat.le_of_ble_eq_true rfl)) (fun w17 H locs q18 hP => ?_)
        exact (q18.2).elim
      · obtain ⟨t0, ht0, htt, hte⟩ : ∃ t0, t0 < 24 ∧ (T t0 = lpa j ∧ C (4 * t0) = x) ∧ t0 = p16 := ⟨p16, hp16, hv15, rfl⟩
        subst hte
        refine lv_istore_n (lv' := [(3, .int (nI t0)), (0, .ref (B + 0)), (1, .int (nI j)), (2, .int x)]) hx hb dX4_referring_37 rfl hl (by decide) rfl (fun ls hl => ?_)
        refine lv_iload_n hx hb dX4_referring_38 rfl (lv_at hl 0 rfl) ?_
        refine lv_iconst (v := (-1)) hx hb dX4_referring_39 (by decide) ?_
        refine lv_icmp_eq (tgt := 47) hx hb dX4_referring_40 (by decide) (fun c40 => absurd c40 (kl_nm1 (by omega))) (fun c40 => ?_)
        refine lv_iconst (v := nI 1) hx hb dX4_referring_43 (by decide) ?_
        refine lv_goto (tgt := 48) hx hb dX4_referring_44 (by decide) ?_
        refine klx_cSv (As := [.int (nI 1)]) (rest := []) ⟨hx, hb, hml, hown, hts⟩ (c_X4_needElement l hst G B _ (nI 1) (kl_b.t (P := True) trivial)) (va_cwS 1 hts gX4_referring_X4_needElement rfl rfl rfl (by decide +kernel) ⟨Nat.le_of_ble_eq_true rfl, Nat.le_of_ble_eq_true rfl⟩) hK hZ hP rfl hl.1 rfl (Nat.le_of_ble_eq_true rfl) dX4_referring_48 ⟨Nat.le_of_ble_eq_true rfl, Nat.le_of_ble_eq_true rfl⟩ (fun _ _ _ _ _ _ hpx _ _ _ _ => (hpx.2.2 trivial).elim) (fun w20 H locs q21 hP => ?_)
        obtain ⟨rfl, ok23⟩ := q21
        refine lv_iconst (v := nI 0) hx hb dX4_referring_51 (by decide) ?_
        refine lv_istore (lv' := [(4, .int (nI 0)), (3, .int (nI t0)), (0, .ref (B + 0)), (1, .int (nI j)), (2, .int x)]) hx hb dX4_referring_52 hl (by decide) rfl (fun ls hl => ?_)
        refine lv_iconst (v := nI 0) hx hb dX4_referring_54 (by decide) ?_
        refine lv_istore (lv' := [(5, .int (nI 0)), (4, .int (nI 0)), (3, .int (nI t0)), (0, .ref (B + 0)), (1, .int (nI j)), (2, .int x)]) hx hb dX4_referring_55 hl (by decide) rfl (fun ls hl => ?_)
        have lp57 : ∀ (n57 : Nat) (p : Nat) (k : Nat), 24 - p < n57 → (p ≤ 24) → (k = mt_ct (fun p => mt_ref T C (lch j) (lco j) (lpa j) p t0) p) → ∀ (H : Heap) (locs : List Loc), kl_S G B w s.heap H locs → ∀ ls : Array Slot, lv_has ls 6 [(0, .ref (B + 0)), (1, .int (nI j)), (3, .int (nI t0)), (4, .int (nI k)), (5, .int (nI p))] → W pg l e rm_X4_referring s m ([.ref (B + 0), .int l9, .int x] : List Value).toArray below meth cd H locs (0 + 1 + 0 + 1) (0 + 6 + 0 + 6) (vx_MQ below (kl_Qi G B (fun r w1 => w = w1 ∧ ∃ j t0, j < nL ∧ l9 = nI j ∧ t0 < 24 ∧ T t0 = lpa j ∧ C (4 * t0) = x ∧ r = nI (mt_ct (fun p => mt_ref T C (lch j) (lco j) (lpa j) p t0) 24))) (kl_X G B (fun E w1 => (E = "java/lang/IllegalArgumentException" ∧ w1 = w ∧ ¬ mt_tab l9 nL) ∨ (E = "java/util/NoSuchElementException" ∧ w1 = w ∧ ∃ j, j < nL ∧ l9 = nI j ∧ ¬ mt_has T C (lpa j) x))) ([.ref (B + 0), .int l9, .int x] : List Value).toArray s 2 12 (kl_fr B)) (F0 m 57 ls []) := by
          intro n57
          induction n57 with
          | zero => intro p k hm; exact absurd hm (Nat.not_lt_zero _)
          | succ n57 ih57 =>
            intro p k hm hp hk H locs  hP ls hl
            refine lv_iload hx hb dX4_referring_57 (lv_at hl 4 rfl) ?_
            refine lv_bipush (v := nI 24) hx hb dX4_referring_59 (by decide) ?_
            refine kl_ge (tgt := 92) hx hb (by omega) (by omega) dX4_referring_61 (by decide) (fun c61 => ?_) (fun c61 => ?_)
            · refine lv_iload hx hb dX4_referring_92 (lv_at hl 3 rfl) ?_
              refine W.widen (k := 2) (n := 12) (by omega) (by omega) ?_
              refine vx_ret ?_
              exact kl_iret hx hb hr hlocks hP ⟨rfl, j, t0, hj, hlj, ht0, htt.1, htt.2, by rw [hk, show p = 24 by omega]⟩ dX4_referring_94
            · refine lv_aload_n hx hb dX4_referring_64 rfl (lv_at hl 0 rfl) ?_
              refine kl_get (C := RX4) (T := TX4) (N := 16) (ci := 4) hx hb hts hinX4 hown hK hP k0 rfl 2 (by decide) (hts (.fieldLink RX4 19 "KinLedger" "links" "[LKinLedger$Link;") (by decide +kernel)) (fun _ h9 => h9) rfl dX4_referring_65 ?_
              refine lv_iload_n hx hb dX4_referring_68 rfl (lv_at hl 1 rfl) ?_
              obtain ⟨el24a, el24b, ⟨el24c, el24d⟩, el24e⟩ := hru.1 j (by omega)
              refine kl_aald hx hb hK hP 3 (k0 := 3) k2 rfl (by omega) (by omega) el24a dX4_referring_69 ?_
              refine lv_aload_n hx hb dX4_referring_70 rfl (lv_at hl 0 rfl) ?_
              refine kl_get (C := RX4) (T := TX4) (N := 16) (ci := 4) hx hb hts hinX4 hown hK hP k0 rfl 10 (by decide) (hts (.fieldLink RX4 53 "KinLedger" "rows" "LKinLedger$Rows;") (by decide +kernel)) (fun _ h9 => h9) rfl dX4_referring_71 ?_
              refine lv_iload hx hb dX4_referring_74 (lv_at hl 4 rfl) ?_
              refine kl_cVi (C := RX1) (i := (la j)) (As := [.ref (B + 6), .int (nI p)]) (rest := []) ⟨hx, hb, hml, hown, hts⟩ (c_X1_target l G B _ 6 7 8 (la j) p el24e k6 k7 k8 (by omega) (by omega)) (cwV 2 hts gX4_referring_X1_target rfl rfl rfl (by decide +kernel) ⟨Nat.le_of_ble_eq_true rfl, Nat.le_of_ble_eq_true rfl⟩) hK hP el24e rfl rfl hl.1 rfl (Nat.le_of_ble_eq_true rfl) dX4_referring_76 ⟨Nat.le_of_ble_eq_true rfl, Nat.le_of_ble_eq_true rfl⟩ (fun r27 w25 H locs q26 hP => ?_)
              obtain ⟨rfl, hv28⟩ := q26
              rcases hv28 with ⟨rfl, hv28⟩ | ⟨p29, hp29, rfl, hv28⟩
              · refine lv_iload_n hx hb dX4_referring_79 rfl (lv_at hl 2 rfl) ?_
                refine lv_icmp_ne (tgt := 86) hx hb dX4_referring_80 (by decide) (fun c80 => ?_) (fun c80 => absurd c80.symm (kl_nm1 (by omega)))
                refine lv_iinc (v := nI (p + 1)) (lv' := [(5, .int (nI (p + 1))), (0, .ref (B + 0)), (1, .int (nI j)), (3, .int (nI t0)), (4, .int (nI k))]) hx hb dX4_referring_86 hl (k := 4) rfl (nI_1 _) (by decide) rfl (fun ls hl => ?_)
                refine lv_goto (tgt := 57) hx hb dX4_referring_89 (by decide) ?_
                exact ih57 (p + 1) k (by omega) (by first | omega | grind) (by rw [mt_ct_n (P := (fun p => mt_ref T C (lch j) (lco j) (lpa j) p t0)) (fun z => hv28 t0 ht0 z), ← hk]) _ _ hP ls (lv_sub hl [1, 2, 3, 4, 0] rfl)
              · refine lv_iload_n hx hb dX4_referring_79 rfl (lv_at hl 2 rfl) ?_
                refine kl_ne (tgt := 86) hx hb (by omega) (by omega) dX4_referring_80 (by decide) (fun c80 => ?_) (fun c80 => ?_)
                · refine lv_iinc (v := nI (p + 1)) (lv' := [(5, .int (nI (p + 1))), (0, .ref (B + 0)), (1, .int (nI j)), (3, .int (nI t0)), (4, .int (nI k))]) hx hb dX4_referring_86 hl (k := 4) rfl (nI_1 _) (by decide) rfl (fun ls hl => ?_)
                  refine lv_goto (tgt := 57) hx hb dX4_referring_89 (by decide) ?_
                  exact ih57 (p + 1) k (by omega) (by first | omega | grind) (by rw [mt_ct_n (P := (fun p => mt_ref T C (lch j) (lco j) (lpa j) p t0)) (fun z => c80 (mt_ref_one hu (hpar j hj) hp29 ht0 hv28 z)), ← hk]) _ _ hP ls (lv_sub hl [1, 2, 3, 4, 0] rfl)
                · refine lv_iinc (v := nI (k + 1)) (lv' := [(4, .int (nI (k + 1))), (0, .ref (B + 0)), (1, .int (nI j)), (3, .int (nI t0)), (5, .int (nI p))]) hx hb dX4_referring_83 hl (k := 3) rfl (nI_1 _) (by decide) rfl (fun ls hl => ?_)
                  refine lv_iinc (v := nI (p + 1)) (lv' := [(5, .int (nI (p + 1))), (4, .int (nI (k + 1))), (0, .ref (B + 0)), (1, .int (nI j)), (3, .int (nI t0))]) hx hb dX4_referring_86 hl (k := 4) rfl (nI_1 _) (by decide) rfl (fun ls hl => ?_)
                  refine lv_goto (tgt := 57) hx hb dX4_referring_89 (by decide) ?_
                  exact ih57 (p + 1) (k + 1) (by omega) (by first | omega | grind) (by rw [mt_ct_y (P := (fun p => mt_ref T C (lch j) (lco j) (lpa j) p t0)) (by rw [← c80]; exact hv28), ← hk]) _ _ hP ls (lv_sub hl [2, 3, 4, 1, 0] rfl)
        exact lp57 (24 + 1) 0 0 (Nat.lt_succ_of_le (by omega)) (by first | omega | grind) rfl _ _ hP ls (lv_sub hl [3, 4, 2, 1, 0] rfl)
